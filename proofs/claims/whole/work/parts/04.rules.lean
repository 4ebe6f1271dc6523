/-! ===== locals ===== -/
def st1 : List (Option Value) → Nat → Value → List (Option Value)
  | [], _, _ => []
  | _ :: t, 0, v => some v :: t
  | o :: t, 1, v => (match o with | some w => if w.category = 2 then none else some w | none => none) :: st1 t 0 v
  | o :: t, i + 2, v => o :: st1 t (i + 1) v
def st2 : List (Option Value) → Nat → Value → List (Option Value)
  | [], _, _ => []
  | _ :: t, 0, v => some v :: (match t with | [] => [] | _ :: t' => none :: t')
  | o :: t, 1, v => (match o with | some w => if w.category = 2 then none else some w | none => none) :: st2 t 0 v
  | o :: t, i + 2, v => o :: st2 t (i + 1) v
theorem st1_at : ∀ (ls : List (Option Value)) (i : Nat) (v : Value) (k : Nat) (w : Value), (st1 ls i v)[k]? = some (some w) → (k = i ∧ w = v) ∨ (k ≠ i ∧ ls[k]? = some (some w) ∧ ¬ (k + 1 = i ∧ w.category = 2)) := by
  intro ls
  induction ls with
  | nil => intro i v k w h; simp [st1] at h
  | cons o t ih =>
    intro i v k w h
    match i, k with
    | 0, 0 => simp [st1] at h; exact Or.inl ⟨rfl, h.symm⟩
    | 0, k + 1 => simp [st1] at h; exact Or.inr ⟨by omega, by simpa using h, by omega⟩
    | 1, 0 =>
      cases o with
      | none => simp [st1] at h
      | some x =>
        simp only [st1, List.getElem?_cons_zero, Option.some.injEq] at h
        by_cases hx : x.category = 2
        · rw [if_pos hx] at h; cases h
        · rw [if_neg hx] at h
          cases h
          exact Or.inr ⟨by omega, by simp, fun q => hx q.2⟩
    | 1, k + 1 =>
      simp only [st1, List.getElem?_cons_succ] at h
      rcases ih 0 v k w h with ⟨a, b⟩ | ⟨a, b, c⟩
      · exact Or.inl ⟨by omega, b⟩
      · exact Or.inr ⟨by omega, by simpa using b, by omega⟩
    | i + 2, 0 => simp only [st1, List.getElem?_cons_zero] at h; exact Or.inr ⟨by omega, by simpa using h, by omega⟩
    | i + 2, k + 1 =>
      simp only [st1, List.getElem?_cons_succ] at h
      rcases ih (i + 1) v k w h with ⟨a, b⟩ | ⟨a, b, c⟩
      · exact Or.inl ⟨by omega, b⟩
      · exact Or.inr ⟨by omega, by simpa using b, fun q => c ⟨by omega, q.2⟩⟩
theorem st2_at : ∀ (ls : List (Option Value)) (i : Nat) (v : Value) (k : Nat) (w : Value), (st2 ls i v)[k]? = some (some w) → (k = i ∧ w = v) ∨ (k ≠ i ∧ k ≠ i + 1 ∧ ls[k]? = some (some w) ∧ ¬ (k + 1 = i ∧ w.category = 2)) := by
  intro ls
  induction ls with
  | nil => intro i v k w h; simp [st2] at h
  | cons o t ih =>
    intro i v k w h
    match i, k with
    | 0, 0 => simp [st2] at h; exact Or.inl ⟨rfl, h.symm⟩
    | 0, 1 => cases t <;> simp [st2] at h
    | 0, k + 2 =>
      cases t with
      | nil => simp [st2] at h
      | cons o2 t2 => simp [st2] at h; exact Or.inr ⟨by omega, by omega, by simpa using h, by omega⟩
    | 1, 0 =>
      cases o with
      | none => simp [st2] at h
      | some x =>
        simp only [st2, List.getElem?_cons_zero, Option.some.injEq] at h
        by_cases hx : x.category = 2
        · rw [if_pos hx] at h; cases h
        · rw [if_neg hx] at h
          cases h
          exact Or.inr ⟨by omega, by omega, by simp, fun q => hx q.2⟩
    | 1, k + 1 =>
      simp only [st2, List.getElem?_cons_succ] at h
      rcases ih 0 v k w h with ⟨a, b⟩ | ⟨a, b, c, d⟩
      · exact Or.inl ⟨by omega, b⟩
      · exact Or.inr ⟨by omega, by omega, by simpa using c, by omega⟩
    | i + 2, 0 => simp only [st2, List.getElem?_cons_zero] at h; exact Or.inr ⟨by omega, by omega, by simpa using h, by omega⟩
    | i + 2, k + 1 =>
      simp only [st2, List.getElem?_cons_succ] at h
      rcases ih (i + 1) v k w h with ⟨a, b⟩ | ⟨a, b, c, d⟩
      · exact Or.inl ⟨by omega, b⟩
      · exact Or.inr ⟨by omega, by omega, by simpa using c, fun q => d ⟨by omega, q.2⟩⟩
/-- the places of the list as pairs -/
def zPr (ls : List (Option Value)) : List (Nat × Value) := (List.range ls.length).filterMap (fun k => match ls[k]? with | some (some v) => some (k, v) | _ => none)
theorem zPr_mem {ls : List (Option Value)} {k : Nat} {v : Value} : (k, v) ∈ zPr ls ↔ ls[k]? = some (some v) := by
  unfold zPr
  rw [List.mem_filterMap]
  constructor
  · rintro ⟨j, -, hj⟩
    cases h : ls[j]? with
    | none => rw [h] at hj; simp at hj
    | some o =>
      cases o with
      | none => rw [h] at hj; simp at hj
      | some w => rw [h] at hj; simp at hj; rw [← hj.1, h, hj.2]
  · intro h
    have hk := (List.getElem?_eq_some_iff.mp h).1
    exact ⟨k, List.mem_range.mpr hk, by rw [h]⟩
theorem zL_has {lsA : Array Slot} {mL : Nat} {ls : List (Option Value)} (h : zL lsA mL ls) : lv_has lsA mL (zPr ls) := ⟨h.1, h.2.1, fun q hq => h.2.2 q.1 q.2 (zPr_mem.mp hq)⟩
theorem zL_st1 {ls : List (Option Value)} {lsA : Array Slot} {mL i : Nat} {v : Value} (h : lv_has lsA mL ((i, v) :: (zPr ls).filter (fun q => !(q.1 == i) && !(q.1 + 1 == i && q.2.category == 2)))) : zL lsA mL (st1 ls i v) := by
  refine ⟨h.1, h.2.1, fun k w hk => h.2.2 (k, w) ?_⟩
  rcases st1_at ls i v k w hk with ⟨a, b⟩ | ⟨a, b, c⟩
  · rw [a, b]; exact List.mem_cons_self
  · refine List.mem_cons_of_mem _ (List.mem_filter.mpr ⟨zPr_mem.mpr b, ?_⟩)
    simp only [Bool.and_eq_true, Bool.not_eq_true', beq_eq_false_iff_ne, ne_eq, Bool.and_eq_false_iff]
    refine ⟨a, ?_⟩
    by_cases q : k + 1 = i
    · exact Or.inr fun z => c ⟨q, z⟩
    · exact Or.inl q
theorem zL_st2 {ls : List (Option Value)} {lsA : Array Slot} {mL i : Nat} {v : Value} (h : lv_has lsA mL ((i, v) :: (zPr ls).filter (fun q => !(q.1 == i) && (!(q.1 == i + 1) && !(q.1 + 1 == i && q.2.category == 2))))) : zL lsA mL (st2 ls i v) := by
  refine ⟨h.1, h.2.1, fun k w hk => h.2.2 (k, w) ?_⟩
  rcases st2_at ls i v k w hk with ⟨a, b⟩ | ⟨a, b, c, d⟩
  · rw [a, b]; exact List.mem_cons_self
  · refine List.mem_cons_of_mem _ (List.mem_filter.mpr ⟨zPr_mem.mpr c, ?_⟩)
    simp only [Bool.and_eq_true, Bool.not_eq_true', beq_eq_false_iff_ne, ne_eq, Bool.and_eq_false_iff]
    refine ⟨a, b, ?_⟩
    by_cases q : k + 1 = i
    · exact Or.inr fun z => d ⟨q, z⟩
    · exact Or.inl q
/-! ===== ints as numbers ===== -/
theorem i32_lt {x y : Int} (hx : R32 x) (hy : R32 y) : Int32.ofInt x < Int32.ofInt y ↔ x < y := by
  rw [Int32.lt_iff_toInt_lt, Int32.toInt_ofInt_of_le (by simpa using hx.1) (by simpa using hx.2), Int32.toInt_ofInt_of_le (by simpa using hy.1) (by simpa using hy.2)]
theorem i32_le {x y : Int} (hx : R32 x) (hy : R32 y) : Int32.ofInt x ≤ Int32.ofInt y ↔ x ≤ y := by
  rw [Int32.le_iff_toInt_le, Int32.toInt_ofInt_of_le (by simpa using hx.1) (by simpa using hx.2), Int32.toInt_ofInt_of_le (by simpa using hy.1) (by simpa using hy.2)]
theorem i32_toInt {x : Int} (hx : R32 x) : (Int32.ofInt x).toInt = x := Int32.toInt_ofInt_of_le (by simpa using hx.1) (by simpa using hx.2)
theorem i32_eq {x y : Int} (hx : R32 x) (hy : R32 y) : Int32.ofInt x = Int32.ofInt y ↔ x = y := by
  constructor
  · intro h
    have := congrArg Int32.toInt h
    rwa [i32_toInt hx, i32_toInt hy] at this
  · intro h; rw [h]
theorem i32_0 : Int32.ofInt 0 = 0 := rfl
theorem r32_0 : R32 0 := ⟨by decide, by decide⟩
theorem i32_cl {x : Int} (h0 : 0 ≤ x) (h1 : x < 2147483648) : (Int32.ofInt x).toNatClampNeg = x.toNat := by
  rw [← Int32.toNat_toInt, i32_toInt ⟨by omega, h1⟩]
theorem i32_in {x : Int} {n : Nat} (h0 : 0 ≤ x) (h1 : x < n) (hn : n < 2147483648) : vp_in (Int32.ofInt x) n := by
  have hx : R32 x := ⟨by omega, by omega⟩
  rintro (h | h)
  · rw [← i32_0, i32_lt hx r32_0] at h; omega
  · rw [i32_cl h0 (by omega)] at h; omega
theorem iV_of (v : Int32) : Value.int v = iV v.toInt := by simp [iV]
def andI (x y : Int) : Int := (Int32.ofInt x &&& Int32.ofInt y).toInt
def orI (x y : Int) : Int := (Int32.ofInt x ||| Int32.ofInt y).toInt
def xorI (x y : Int) : Int := (Int32.ofInt x ^^^ Int32.ofInt y).toInt
def shlI (x y : Int) : Int := (Int32.ofInt x <<< (Int32.ofInt y &&& 31)).toInt
def shrI (x y : Int) : Int := (Int32.ofInt x >>> (Int32.ofInt y &&& 31)).toInt
def ushrI (x y : Int) : Int := ((Int32.ofInt x).toUInt32 >>> ((Int32.ofInt y).toUInt32 &&& Int32.toUInt32 31)).toInt32.toInt
def w8 (x : Int) : Int := (Int32.ofInt x).toInt8.toInt32.toInt
def w16 (x : Int) : Int := ((Int32.ofInt x).toUInt32 % 65536).toInt32.toInt
def i2lF (x : Int) : Int64 := (Int32.ofInt x).toInt64
def l2iF (x : Int64) : Int := x.toInt32.toInt
def lshlF (x : Int64) (y : Int) : Int64 := x <<< ((Int32.ofInt y).toInt64 &&& 63)
def lushrF (x : Int64) (y : Int) : Int64 := (x.toUInt64 >>> ((Int32.ofInt y).toInt64.toUInt64 &&& Int64.toUInt64 63)).toInt64
def lcmpF (x y : Int64) : Int := (lg_cmp x y).toInt
theorem i32_div {x y : Int} (hx : 0 ≤ x) (hx1 : x < 2147483648) (hy : 0 < y) (hy1 : y < 2147483648) : Int32.ofInt x / Int32.ofInt y = Int32.ofInt (x / y) := by
  have e1 : Int32.ofInt x = nI x.toNat := by rw [nI, ← Int32.ofInt_eq_ofNat, Int.toNat_of_nonneg hx]
  have e2 : Int32.ofInt y = nI y.toNat := by rw [nI, ← Int32.ofInt_eq_ofNat, Int.toNat_of_nonneg (by omega)]
  rw [e1, e2, pk_div (by omega) (by omega) (by omega), nI, ← Int32.ofInt_eq_ofNat]
  congr 1
  rw [Int.natCast_ediv, Int.toNat_of_nonneg hx, Int.toNat_of_nonneg (by omega)]
theorem i32_rem {x y : Int} (hx : 0 ≤ x) (hx1 : x < 2147483648) (hy : 0 < y) (hy1 : y < 2147483648) : Int32.ofInt x - Int32.ofInt x / Int32.ofInt y * Int32.ofInt y = Int32.ofInt (x % y) := by
  rw [i32_div hx hx1 hy hy1, ← Int32.ofInt_mul, ← Int32.ofInt_sub]
  congr 1
  have := Int.emod_add_mul_ediv x y
  rw [Int.mul_comm] at this
  omega
