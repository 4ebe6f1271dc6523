/-! ===== printed: which cell is what ===== -/
theorem zlt {k m n : Nat} (hn : m ≤ n) (h : Nat.blt k m = true) : k < n := by have := zblt h; omega
theorem r32c {x : Int} (h : decide (-2147483648 ≤ x ∧ x < 2147483648) = true) : R32 x := by have h := of_decide_eq_true h; exact h
def zYn (o : Nat) : Nat := if o = 29 then 1500 else 4096
theorem r32_b {x : Int} (h0 : -128 ≤ x) (h1 : x < 128) : R32 x := ⟨by omega, by omega⟩
theorem r32_len {a z : Nat} {ty : FieldType} (h : SH a = some (.inl (ty, z))) : R32 (z : Int) := by have := zSh_len h; exact ⟨by omega, by omega⟩
theorem w8_eq (x : Int) : w8 x = x.bmod 256 := by
  unfold w8
  rw [Int8.toInt_toInt32, Int32.toInt_toInt8, Int32.toInt_ofInt, Int.bmod_bmod_of_dvd (by decide)]
theorem w8_lo (x : Int) : -128 ≤ w8 x := by rw [w8_eq]; have := Int.le_bmod (x := x) (m := 256) (by decide); omega
theorem w8_hi (x : Int) : w8 x < 128 := by rw [w8_eq]; have := Int.bmod_lt (x := x) (m := 256) (by decide); omega
theorem zok_by {n : Nat} {σ : ZSto} {a i len : Nat} (h : ZOk n σ) (hs : SH a = some (.inl (.byte, len))) : -128 ≤ gI σ a i ∧ gI σ a i < 128 := h.2.2 a i .byte len hs
theorem zok_bz {n : Nat} {σ : ZSto} {a i len : Nat} (h : ZOk n σ) (hs : SH a = some (.inl (.boolean, len))) : gI σ a i = 0 ∨ gI σ a i = 1 := h.2.2 a i .boolean len hs
section ZX1
variable {X : ZX} {M : ZM} {R : Room} {Z : List Frame → Array Value → State → State → Prop} {n0 n pc : Nat} {ls : List (Option Value)} {st : List Value} {σ : ZSto}
theorem r_ialoadE {a len : Nat} {x e : Int} (hd : decode M.2.1 pc = .ok (.iaload, 1)) (ha : a < n) (hs : SH a = some (.inl (.int, len))) (h0 : 0 ≤ x) (h1 : x < len) (he : gI σ a x.toNat = e) (k : Zm X M R Z n0 n (pc + 1) ls (iV e :: st) σ) : Zm X M R Z n0 n pc ls (iV x :: .ref (zB X + a) :: st) σ := r_iaload hd ha hs h0 h1 (by rw [he]; exact k)
theorem r_baloadE {a len : Nat} {x e : Int} (hd : decode M.2.1 pc = .ok (.baload, 1)) (ha : a < n) (hs : SH a = some (.inl (.byte, len))) (h0 : 0 ≤ x) (h1 : x < len) (he : gI σ a x.toNat = e) (k : Zm X M R Z n0 n (pc + 1) ls (iV e :: st) σ) : Zm X M R Z n0 n pc ls (iV x :: .ref (zB X + a) :: st) σ := r_baload hd ha hs h0 h1 (by rw [he]; exact k)
theorem r_zaloadE {a len : Nat} {x e : Int} (hd : decode M.2.1 pc = .ok (.baload, 1)) (ha : a < n) (hs : SH a = some (.inl (.boolean, len))) (h0 : 0 ≤ x) (h1 : x < len) (he : gI σ a x.toNat = e) (k : Zm X M R Z n0 n (pc + 1) ls (iV e :: st) σ) : Zm X M R Z n0 n pc ls (iV x :: .ref (zB X + a) :: st) σ := r_zaload hd ha hs h0 h1 (by rw [he]; exact k)
theorem r_laloadE {a len : Nat} {x : Int} {e : Int64} (hd : decode M.2.1 pc = .ok (.laload, 1)) (ha : a < n) (hs : SH a = some (.inl (.long, len))) (h0 : 0 ≤ x) (h1 : x < len) (he : gL σ a x.toNat = e) (k : Zm X M R Z n0 n (pc + 1) ls (.long e :: st) σ) : Zm X M R Z n0 n pc ls (iV x :: .ref (zB X + a) :: st) σ := r_laload hd ha hs h0 h1 (by rw [he]; exact k)
theorem r_name {x : Int} (k : ∀ y : Int, y = x → Zm X M R Z n0 n pc ls (iV y :: st) σ) : Zm X M R Z n0 n pc ls (iV x :: st) σ := k x rfl
end ZX1
theorem lk_dflt {x : Int} (h0 : ¬ x = 0) (h1 : ¬ x = 1) : Op.lookupswitch.offset (#[(0, 27), (1, 35)] : Array (Int × Int)).toList 43 x = 43 := by
  have a0 : ¬ (0 : Int) = x := fun q => h0 q.symm
  have a1 : ¬ (1 : Int) = x := fun q => h1 q.symm
  simp [Op.lookupswitch.offset, h0, h1, a0, a1]

/-! ===== System.arraycopy ===== -/
def cpI (σ : ZSto) (a b : Nat) (sp dp m : Int) : ZSto := (fun c j => if c = b ∧ dp.toNat ≤ j ∧ j < dp.toNat + m.toNat then σ.1 a (sp.toNat + (j - dp.toNat)) else σ.1 c j, σ.2)
def cpL (σ : ZSto) (a b : Nat) (sp dp m : Int) : ZSto := (σ.1, fun c j => if c = b ∧ dp.toNat ≤ j ∧ j < dp.toNat + m.toNat then σ.2.1 a (sp.toNat + (j - dp.toNat)) else σ.2.1 c j, σ.2.2)
theorem gI_cpI (σ : ZSto) (a b : Nat) (sp dp m : Int) (c j : Nat) : gI (cpI σ a b sp dp m) c j = if c = b ∧ dp.toNat ≤ j ∧ j < dp.toNat + m.toNat then gI σ a (sp.toNat + (j - dp.toNat)) else gI σ c j := rfl
theorem gL_cpI (σ : ZSto) (a b : Nat) (sp dp m : Int) (c j : Nat) : gL (cpI σ a b sp dp m) c j = gL σ c j := rfl
theorem gP_cpI (σ : ZSto) (a b : Nat) (sp dp m : Int) (c j : Nat) : gP (cpI σ a b sp dp m) c j = gP σ c j := rfl
theorem gL_cpL (σ : ZSto) (a b : Nat) (sp dp m : Int) (c j : Nat) : gL (cpL σ a b sp dp m) c j = if c = b ∧ dp.toNat ≤ j ∧ j < dp.toNat + m.toNat then gL σ a (sp.toNat + (j - dp.toNat)) else gL σ c j := rfl
theorem gI_cpL (σ : ZSto) (a b : Nat) (sp dp m : Int) (c j : Nat) : gI (cpL σ a b sp dp m) c j = gI σ c j := rfl
theorem gP_cpL (σ : ZSto) (a b : Nat) (sp dp m : Int) (c j : Nat) : gP (cpL σ a b sp dp m) c j = gP σ c j := rfl
theorem zok_cpI {n : Nat} {σ : ZSto} {a b la lb : Nat} {sp dp m : Int} (h : ZOk n σ) (ha : SH a = some (.inl (.byte, la))) (hb : SH b = some (.inl (.byte, lb))) : ZOk n (cpI σ a b sp dp m) := by
  refine ⟨h.1, fun c j => ?_, fun c j ty len hs => ?_⟩
  · rw [gI_cpI]; split
    · exact h.2.1 _ _
    · exact h.2.1 _ _
  · rw [gI_cpI]; split
    next q => rw [q.1, hb] at hs; cases hs; exact h.2.2 a _ .byte la ha
    next => exact h.2.2 c j ty len hs
theorem zok_cpL {n : Nat} {σ : ZSto} {a b la lb : Nat} {sp dp m : Int} (h : ZOk n σ) (ha : SH a = some (.inl (.long, la))) (hb : SH b = some (.inl (.long, lb))) : ZOk n (cpL σ a b sp dp m) := h
def maxI (x y : Int) : Int := if x < y then y else x
def minI (x y : Int) : Int := if y < x then y else x
def absI (x : Int) : Int := if 0 ≤ x then x else 0 - x
theorem r32_max {x y : Int} (hx : R32 x) (hy : R32 y) : R32 (maxI x y) := by unfold maxI; split <;> assumption
theorem r32_min {x y : Int} (hx : R32 x) (hy : R32 y) : R32 (minI x y) := by unfold minI; split <;> assumption
def zMath (y : MethodName) (c : ByteArray) (mL : Nat) : Prop := Cond.static y ∈ lw_tbl ∧ Cond.initialized "java/lang/Math" ∈ lw_tbl ∧ Cond.code y c mL (some .int) ∈ lw_tbl
def zCp (own : String) (idx : Nat) : Prop := Cond.methodLink own idx arraycopyName ∈ lw_tbl ∧ Cond.native arraycopyName ∈ lw_tbl ∧ Cond.static arraycopyName ∈ lw_tbl ∧ Cond.initialized "java/lang/System" ∈ lw_tbl
theorem zE_obj_eq {B : Nat} {cA : FieldType → ClassId} {σ σ' : ZSto} {k : Nat} (h1 : gI σ' k = gI σ k) (h2 : gL σ' k = gL σ k) (h3 : gP σ' k = gP σ k) : zE B cA σ' k = zE B cA σ k := by
  have e1 : ∀ ty, zA σ' ty k = zA σ ty k := fun ty => by unfold zA; split <;> simp [h1, h2]
  have e2 : ∀ ty j, fV B σ' ty k j = fV B σ ty k j := fun ty j => by unfold fV; split <;> simp [h1, h2, h3]
  unfold zE
  split
  · rw [e1]
  · simp [e2]
  · rfl
section ZCP
variable {X : ZX} {M : ZM} {R : Room} {Z : List Frame → Array Value → State → State → Prop} {d n0 n pc idx : Nat} {ls : List (Option Value)} {st : List Value} {σ : ZSto}
theorem r_copyB {a b la lb : Nat} {sp dp m : Int} (hd : decode M.2.1 pc = .ok (.invokestatic idx, 3)) (hw : zCp M.1.cls idx) (ha : a < n) (hsa : SH a = some (.inl (.byte, la))) (hb : b < n) (hsb : SH b = some (.inl (.byte, lb))) (h : 0 ≤ sp ∧ 0 ≤ dp ∧ 0 ≤ m ∧ sp + m ≤ la ∧ dp + m ≤ lb) (hR : zFits R d n0 n) (hcat : (st.map fun v => v.category).sum ≤ 8) (hok : ZOk n σ)
    (k : Zm X M R Z n0 n (pc + 3) ls st (cpI σ a b sp dp m)) : Zm X M R Z n0 n pc ls (iV m :: iV dp :: .ref (zB X + b) :: iV sp :: .ref (zB X + a) :: st) σ := by
  intro G p e s mm args below meth c H locs lsA hF hL hP
  have kk := fun H1 locs1 hP1 => k G p e s mm args below meth c H1 locs1 lsA hF hL hP1
  have hW := hF.2.2.2.2.2.2.2.1
  have he1 := zW_at (B := zB X) (cA := X.2.2.2) (σ := σ) ha
  have he2 := zW_at (B := zB X) (cA := X.2.2.2) (σ := σ) hb
  rw [zE_arr hsa] at he1
  rw [zE_arr hsb] at he2
  have l1 := zSh_len hsa
  have l2 := zSh_len hsb
  have q1 : ¬ Int32.ofInt sp < 0 := by rw [← i32_0, i32_lt ⟨by omega, by omega⟩ r32_0]; omega
  have q2 : ¬ Int32.ofInt dp < 0 := by rw [← i32_0, i32_lt ⟨by omega, by omega⟩ r32_0]; omega
  have q3 : ¬ Int32.ofInt m < 0 := by rw [← i32_0, i32_lt ⟨by omega, by omega⟩ r32_0]; omega
  have c1 := i32_cl (x := sp) (by omega) (by omega)
  have c2 := i32_cl (x := dp) (by omega) (by omega)
  have c3 := i32_cl (x := m) (by omega) (by omega)
  refine va_copyi hF.1 hF.2.1 (hF.2.2.1.trans hL.1.symm) hF.2.2.2.2.2.1 (zGood_word G hW hw.1 rfl args) (zGood_word G hW hw.2.1 rfl args) (zGood_word G hW hw.2.2.1 rfl args) (zGood_word G hW hw.2.2.2 rfl args) (zGood_K G hW) hP.2.1 (zW_D X _ σ n) hP.2.2 a b 1 1 he1 he2 rfl rfl rfl q1 q2 q3 (by rw [c1, c3]; omega) (by rw [c2, c3]; omega) ?_ (by have := hR.1; omega) ?_ hd (fun H1 locs1 hP1 _ hS1 => ?_)
  · intro i _
    have := hok.2.2 a ((Int32.ofInt sp).toNatClampNeg + i) .byte la hsa
    have h2 : R32 (gI σ a ((Int32.ofInt sp).toNatClampNeg + i)) := hok.2.1 _ _
    show fits .byte (.int (Int32.ofInt (gI σ a ((Int32.ofInt sp).toNatClampNeg + i)))) = true
    generalize gI σ a ((Int32.ofInt sp).toNatClampNeg + i) = y at this h2
    have r1 : Int32.ofInt (-128) ≤ Int32.ofInt y := (i32_le ⟨by decide, by decide⟩ h2).mpr this.1
    have r2 : Int32.ofInt y ≤ Int32.ofInt 127 := (i32_le h2 ⟨by decide, by decide⟩).mpr (by have := this.2; omega)
    show (decide (-128 ≤ Int32.ofInt y) && decide (Int32.ofInt y ≤ 127)) = true
    rw [Bool.and_eq_true, decide_eq_true_eq, decide_eq_true_eq]
    exact ⟨r1, r2⟩
  · have h1 : nativeFrameWords "java/lang/System" "arraycopy" 5 + 11 ≤ 72 := by decide
    have := hR.2.1
    omega
  · rw [c1, c2, c3] at hP1
    have hset := zW_set (B := zB X) (cA := X.2.2.2) (σ := σ) (σ' := cpI σ a b sp dp m) (n := n) (a := b) (e := .inl (X.2.2.2 .byte, lb, .inl (va_cpy (fun i => Int32.ofInt (gI σ a i)) (fun i => Int32.ofInt (gI σ b i)) sp.toNat dp.toNat m.toNat))) (by
      rw [zE_arr hsb]
      show Sum.inl (_, _, Sum.inl _) = Sum.inl (_, _, Sum.inl _)
      congr 3
      congr 1
      funext j
      rw [gI_cpI, va_cpy]
      by_cases q : dp.toNat ≤ j ∧ j < dp.toNat + m.toNat
      · rw [if_pos ⟨rfl, q⟩, if_pos q]
      · rw [if_neg (fun z => q z.2), if_neg q]) (fun c hc => zE_obj_eq (by funext j; rw [gI_cpI, if_neg (fun z => hc z.1)]) rfl rfl)
    have hP1 : va_P X.2.2.1 zCl ((zW (zB X) X.2.2.2 σ n).set b (zB X + b, .inl (X.2.2.2 .byte, lb, .inl (va_cpy (fun i => Int32.ofInt (gI σ a i)) (fun i => Int32.ofInt (gI σ b i)) sp.toNat dp.toNat m.toNat)))) H1 := hP1
    rw [hset] at hP1
    exact kk H1 locs1 ⟨hP.1, hP1, hS1⟩
theorem r_copyL {a b la lb : Nat} {sp dp m : Int} (hd : decode M.2.1 pc = .ok (.invokestatic idx, 3)) (hw : zCp M.1.cls idx) (ha : a < n) (hsa : SH a = some (.inl (.long, la))) (hb : b < n) (hsb : SH b = some (.inl (.long, lb))) (h : 0 ≤ sp ∧ 0 ≤ dp ∧ 0 ≤ m ∧ sp + m ≤ la ∧ dp + m ≤ lb) (hR : zFits R d n0 n) (hcat : (st.map fun v => v.category).sum ≤ 8) (hok : ZOk n σ)
    (k : Zm X M R Z n0 n (pc + 3) ls st (cpL σ a b sp dp m)) : Zm X M R Z n0 n pc ls (iV m :: iV dp :: .ref (zB X + b) :: iV sp :: .ref (zB X + a) :: st) σ := by
  intro G p e s mm args below meth c H locs lsA hF hL hP
  have kk := fun H1 locs1 hP1 => k G p e s mm args below meth c H1 locs1 lsA hF hL hP1
  have hW := hF.2.2.2.2.2.2.2.1
  have he1 := zW_at (B := zB X) (cA := X.2.2.2) (σ := σ) ha
  have he2 := zW_at (B := zB X) (cA := X.2.2.2) (σ := σ) hb
  rw [zE_arr hsa] at he1
  rw [zE_arr hsb] at he2
  have l1 := zSh_len hsa
  have l2 := zSh_len hsb
  have q1 : ¬ Int32.ofInt sp < 0 := by rw [← i32_0, i32_lt ⟨by omega, by omega⟩ r32_0]; omega
  have q2 : ¬ Int32.ofInt dp < 0 := by rw [← i32_0, i32_lt ⟨by omega, by omega⟩ r32_0]; omega
  have q3 : ¬ Int32.ofInt m < 0 := by rw [← i32_0, i32_lt ⟨by omega, by omega⟩ r32_0]; omega
  have c1 := i32_cl (x := sp) (by omega) (by omega)
  have c2 := i32_cl (x := dp) (by omega) (by omega)
  have c3 := i32_cl (x := m) (by omega) (by omega)
  refine va_copyl hF.1 hF.2.1 (hF.2.2.1.trans hL.1.symm) hF.2.2.2.2.2.1 (zGood_word G hW hw.1 rfl args) (zGood_word G hW hw.2.1 rfl args) (zGood_word G hW hw.2.2.1 rfl args) (zGood_word G hW hw.2.2.2 rfl args) (zGood_K G hW) hP.2.1 (zW_D X _ σ n) hP.2.2 a b 3 3 he1 he2 rfl rfl rfl q1 q2 q3 (by rw [c1, c3]; omega) (by rw [c2, c3]; omega) (fun i _ => rfl) (by have := hR.1; omega) ?_ hd (fun H1 locs1 hP1 _ hS1 => ?_)
  · have h1 : nativeFrameWords "java/lang/System" "arraycopy" 5 + 11 ≤ 72 := by decide
    have := hR.2.1
    omega
  · rw [c1, c2, c3] at hP1
    have hset := zW_set (B := zB X) (cA := X.2.2.2) (σ := σ) (σ' := cpL σ a b sp dp m) (n := n) (a := b) (e := .inl (X.2.2.2 .long, lb, .inr (.inl (va_cpy (gL σ a) (gL σ b) sp.toNat dp.toNat m.toNat)))) (by
      rw [zE_arr hsb]
      show Sum.inl (_, _, Sum.inr (Sum.inl _)) = Sum.inl (_, _, Sum.inr (Sum.inl _))
      congr 5
      funext j
      rw [gL_cpL, va_cpy]
      by_cases q : dp.toNat ≤ j ∧ j < dp.toNat + m.toNat
      · rw [if_pos ⟨rfl, q⟩, if_pos q]
      · rw [if_neg (fun z => q z.2), if_neg q]) (fun c hc => zE_obj_eq rfl (by funext j; rw [gL_cpL, if_neg (fun z => hc z.1)]) rfl)
    have hP1 : va_P X.2.2.1 zCl ((zW (zB X) X.2.2.2 σ n).set b (zB X + b, .inl (X.2.2.2 .long, lb, .inr (.inl (va_cpy (gL σ a) (gL σ b) sp.toNat dp.toNat m.toNat))))) H1 := hP1
    rw [hset] at hP1
    exact kk H1 locs1 ⟨hP.1, hP1, hS1⟩
theorem r_mmax {x y : Int} (hd : decode M.2.1 pc = .ok (.invokestatic idx, 3)) (hw : Cond.methodLink M.1.cls idx Lib.Math.max.name ∈ lw_tbl) (hc : zMath Lib.Math.max.name Lib.Math.max.code 2) (hx : R32 x) (hy : R32 y) (hR : zFits R d n0 n) (hcat : (st.map fun v => v.category).sum ≤ 8) (k : Zm X M R Z n0 n (pc + 3) ls (iV (maxI x y) :: st) σ) : Zm X M R Z n0 n pc ls (iV y :: iV x :: st) σ := by
  intro G p e s mm args below meth c H locs lsA hF hL hP
  have kk := k G p e s mm args below meth c H locs lsA hF hL hP
  have hW := hF.2.2.2.2.2.2.2.1
  refine va_mmax hF.1 hF.2.1 (hF.2.2.1.trans hL.1.symm) hF.2.2.2.2.2.1 (zGood_word G hW hw rfl args) (zGood_word G hW hc.1 rfl args) (zGood_word G hW hc.2.1 rfl args) (zGood_word G hW hc.2.2 rfl args) (by have := hR.1; omega) (by have := hR.2.1; omega) hR.2.2.1 hR.2.2.2 hd ?_
  have e1 : (if Int32.ofInt x < Int32.ofInt y then Int32.ofInt y else Int32.ofInt x) = Int32.ofInt (maxI x y) := by
    unfold maxI
    by_cases q : x < y
    · rw [if_pos q, if_pos ((i32_lt hx hy).mpr q)]
    · rw [if_neg q, if_neg (fun z => q ((i32_lt hx hy).mp z))]
  rw [e1]
  exact kk
theorem r_mmin {x y : Int} (hd : decode M.2.1 pc = .ok (.invokestatic idx, 3)) (hw : Cond.methodLink M.1.cls idx Lib.Math.min.name ∈ lw_tbl) (hc : zMath Lib.Math.min.name Lib.Math.min.code 2) (hx : R32 x) (hy : R32 y) (hR : zFits R d n0 n) (hcat : (st.map fun v => v.category).sum ≤ 8) (k : Zm X M R Z n0 n (pc + 3) ls (iV (minI x y) :: st) σ) : Zm X M R Z n0 n pc ls (iV y :: iV x :: st) σ := by
  intro G p e s mm args below meth c H locs lsA hF hL hP
  have kk := k G p e s mm args below meth c H locs lsA hF hL hP
  have hW := hF.2.2.2.2.2.2.2.1
  refine va_mmin hF.1 hF.2.1 (hF.2.2.1.trans hL.1.symm) hF.2.2.2.2.2.1 (zGood_word G hW hw rfl args) (zGood_word G hW hc.1 rfl args) (zGood_word G hW hc.2.1 rfl args) (zGood_word G hW hc.2.2 rfl args) (by have := hR.1; omega) (by have := hR.2.1; omega) hR.2.2.1 hR.2.2.2 hd ?_
  have e1 : (if Int32.ofInt y < Int32.ofInt x then Int32.ofInt y else Int32.ofInt x) = Int32.ofInt (minI x y) := by
    unfold minI
    by_cases q : y < x
    · rw [if_pos q, if_pos ((i32_lt hy hx).mpr q)]
    · rw [if_neg q, if_neg (fun z => q ((i32_lt hy hx).mp z))]
  rw [e1]
  exact kk
theorem r_mabs {x : Int} (hd : decode M.2.1 pc = .ok (.invokestatic idx, 3)) (hw : Cond.methodLink M.1.cls idx Lib.Math.abs.name ∈ lw_tbl) (hc : zMath Lib.Math.abs.name Lib.Math.abs.code 1) (hx : R32 x) (hR : zFits R d n0 n) (hcat : (st.map fun v => v.category).sum ≤ 8) (k : Zm X M R Z n0 n (pc + 3) ls (iV (absI x) :: st) σ) : Zm X M R Z n0 n pc ls (iV x :: st) σ := by
  intro G p e s mm args below meth c H locs lsA hF hL hP
  have kk := k G p e s mm args below meth c H locs lsA hF hL hP
  have hW := hF.2.2.2.2.2.2.2.1
  refine va_mabs hF.1 hF.2.1 (hF.2.2.1.trans hL.1.symm) hF.2.2.2.2.2.1 (zGood_word G hW hw rfl args) (zGood_word G hW hc.1 rfl args) (zGood_word G hW hc.2.1 rfl args) (zGood_word G hW hc.2.2 rfl args) (by have := hR.1; omega) (by have := hR.2.1; omega) hR.2.2.1 hR.2.2.2 hd ?_
  have e1 : (if 0 ≤ Int32.ofInt x then Int32.ofInt x else 0 - Int32.ofInt x) = Int32.ofInt (absI x) := by
    unfold absI
    rw [← i32_0]
    by_cases q : 0 ≤ x
    · rw [if_pos q, if_pos ((i32_le r32_0 hx).mpr q)]
    · rw [if_neg q, if_neg (fun z => q ((i32_le r32_0 hx).mp z)), Int32.ofInt_sub]
  rw [e1]
  exact kk
end ZCP

theorem sh_0 : SH 0 = some (.inr 9) := rfl
theorem sh_1 : SH 1 = some (.inr 7) := rfl
theorem sh_2 : SH 2 = some (.inl (.int, 250)) := rfl
theorem sh_3 : SH 3 = some (.inl (.int, 250)) := rfl
theorem sh_4 : SH 4 = some (.inl (.int, 250)) := rfl
theorem sh_5 : SH 5 = some (.inl (.int, 250)) := rfl
theorem sh_6 : SH 6 = some (.inl (.int, 250)) := rfl
theorem sh_7 : SH 7 = some (.inl (.int, 250)) := rfl
theorem sh_8 : SH 8 = some (.inl (.int, 250)) := rfl
theorem sh_9 : SH 9 = some (.inl (.int, 250)) := rfl
theorem sh_10 : SH 10 = some (.inl (.int, 250)) := rfl
theorem sh_11 : SH 11 = some (.inl (.int, 250)) := rfl
theorem sh_12 : SH 12 = some (.inl (.int, 250)) := rfl
theorem sh_13 : SH 13 = some (.inl (.long, 750)) := rfl
theorem sh_14 : SH 14 = some (.inl (.long, 750)) := rfl
theorem sh_15 : SH 15 = some (.inr 7) := rfl
theorem sh_16 : SH 16 = some (.inl (.int, 250)) := rfl
theorem sh_17 : SH 17 = some (.inl (.int, 250)) := rfl
theorem sh_18 : SH 18 = some (.inl (.int, 250)) := rfl
theorem sh_19 : SH 19 = some (.inl (.int, 250)) := rfl
theorem sh_20 : SH 20 = some (.inl (.int, 250)) := rfl
theorem sh_21 : SH 21 = some (.inl (.int, 250)) := rfl
theorem sh_22 : SH 22 = some (.inl (.int, 250)) := rfl
theorem sh_23 : SH 23 = some (.inl (.int, 250)) := rfl
theorem sh_24 : SH 24 = some (.inl (.int, 250)) := rfl
theorem sh_25 : SH 25 = some (.inl (.int, 250)) := rfl
theorem sh_26 : SH 26 = some (.inl (.int, 250)) := rfl
theorem sh_27 : SH 27 = some (.inl (.long, 750)) := rfl
theorem sh_28 : SH 28 = some (.inl (.long, 750)) := rfl
theorem sh_29 : SH 29 = some (.inr 1) := rfl
theorem sh_30 : SH 30 = some (.inl (.byte, 1500)) := rfl
theorem sh_31 : SH 31 = some (.inr 1) := rfl
theorem sh_32 : SH 32 = some (.inl (.byte, 4096)) := rfl
theorem sh_33 : SH 33 = some (.inr 0) := rfl
theorem sh_34 : SH 34 = some (.inl (.byte, 81)) := rfl
theorem sh_35 : SH 35 = some (.inl (.int, 324)) := rfl
theorem sh_36 : SH 36 = some (.inl (.int, 81)) := rfl
theorem sh_37 : SH 37 = some (.inl (.int, 81)) := rfl
theorem sh_38 : SH 38 = some (.inl (.int, 81)) := rfl
theorem sh_39 : SH 39 = some (.inl (.int, 3)) := rfl
theorem sh_40 : SH 40 = some (.inl (.long, 3)) := rfl
theorem sh_41 : SH 41 = some (.inr 0) := rfl
theorem sh_42 : SH 42 = some (.inl (.byte, 81)) := rfl
theorem sh_43 : SH 43 = some (.inl (.int, 324)) := rfl
theorem sh_44 : SH 44 = some (.inl (.int, 81)) := rfl
theorem sh_45 : SH 45 = some (.inl (.int, 81)) := rfl
theorem sh_46 : SH 46 = some (.inl (.int, 81)) := rfl
theorem sh_47 : SH 47 = some (.inl (.int, 3)) := rfl
theorem sh_48 : SH 48 = some (.inl (.long, 3)) := rfl
theorem sh_49 : SH 49 = some (.inr 5) := rfl
theorem sh_50 : SH 50 = some (.inl (.int, 252)) := rfl
theorem sh_51 : SH 51 = some (.inl (.long, 3)) := rfl
theorem sh_52 : SH 52 = some (.inr 8) := rfl
theorem sh_53 : SH 53 = some (.inr 4) := rfl
theorem sh_54 : SH 54 = some (.inl (.int, 81)) := rfl
theorem sh_55 : SH 55 = some (.inl (.int, 81)) := rfl
theorem sh_56 : SH 56 = some (.inl (.int, 64)) := rfl
theorem sh_57 : SH 57 = some (.inl (.int, 64)) := rfl
theorem sh_58 : SH 58 = some (.inl (.int, 64)) := rfl
theorem sh_59 : SH 59 = some (.inl (.long, 64)) := rfl
theorem sh_60 : SH 60 = some (.inl (.long, 64)) := rfl
theorem sh_61 : SH 61 = some (.inr 3) := rfl
theorem sh_62 : SH 62 = some (.inl (.long, 1803)) := rfl
theorem sh_63 : SH 63 = some (.inl (.long, 601)) := rfl
theorem sh_64 : SH 64 = some (.inl (.long, 601)) := rfl
theorem sh_65 : SH 65 = some (.inl (.int, 601)) := rfl
theorem sh_66 : SH 66 = some (.inl (.int, 601)) := rfl
theorem sh_67 : SH 67 = some (.inr 6) := rfl
theorem sh_68 : SH 68 = some (.inl (.boolean, 81)) := rfl
theorem sh_69 : SH 69 = some (.inl (.int, 3)) := rfl
theorem sh_70 : SH 70 = some (.inl (.int, 3)) := rfl
theorem sh_71 : SH 71 = some (.inr 2) := rfl
theorem sh_72 : SH 72 = some (.inr 2) := rfl
theorem sh_73 : SH 73 = some (.inr 10) := rfl
theorem sh_74 : SH 74 = some (.inl (.int, 500)) := rfl
theorem sh_75 : SH 75 = some (.inl (.int, 500)) := rfl
theorem sh_76 : SH 76 = some (.inl (.int, 500)) := rfl
theorem sh_77 : SH 77 = some (.inl (.int, 500)) := rfl
theorem sh_78 : SH 78 = some (.inl (.int, 500)) := rfl
theorem sh_79 : SH 79 = some (.inl (.byte, 40500)) := rfl
theorem sh_80 : SH 80 = some (.inl (.byte, 40500)) := rfl
theorem sh_81 : SH 81 = some (.inl (.int, 2)) := rfl
theorem sh_82 : SH 82 = some (.inl (.int, 2)) := rfl
theorem sh_83 : SH 83 = some (.inl (.int, 2)) := rfl
theorem sh_84 : SH 84 = some (.inl (.byte, 81)) := rfl
theorem sh_85 : SH 85 = some (.inl (.boolean, 81)) := rfl
theorem sh_86 : SH 86 = some (.inl (.boolean, 81)) := rfl
theorem sh_87 : SH 87 = some (.inl (.int, 81)) := rfl
theorem sh_88 : SH 88 = some (.inl (.byte, 1500)) := rfl
theorem sh_89 : SH 89 = some (.inl (.int, 1500)) := rfl
theorem sh_90 : SH 90 = some (.inl (.byte, 9000)) := rfl
theorem sh_91 : SH 91 = some (.inl (.int, 250)) := rfl
theorem sh_92 : SH 92 = some (.inl (.boolean, 81)) := rfl
theorem sh_93 : SH 93 = some (.inl (.int, 81)) := rfl
theorem sh_94 : SH 94 = some (.inl (.int, 81)) := rfl
theorem sh_95 : SH 95 = some (.inl (.boolean, 81)) := rfl
theorem sh_96 : SH 96 = some (.inl (.boolean, 81)) := rfl
theorem sh_97 : SH 97 = some (.inl (.byte, 49000)) := rfl
theorem sh_98 : SH 98 = some (.inl (.boolean, 81)) := rfl
theorem sh_99 : SH 99 = some (.inl (.int, 81)) := rfl
theorem sh_100 : SH 100 = some (.inl (.boolean, 81)) := rfl
theorem sh_101 : SH 101 = some (.inl (.int, 3)) := rfl
theorem sh_102 : SH 102 = some (.inl (.int, 3)) := rfl
theorem sh_103 : SH 103 = some (.inl (.boolean, 3)) := rfl
theorem p_0_2 : zRef 0 2 = some 29 := rfl
theorem p_0_3 : zRef 0 3 = some 31 := rfl
theorem p_0_4 : zRef 0 4 = some 33 := rfl
theorem p_0_5 : zRef 0 5 = some 41 := rfl
theorem p_0_6 : zRef 0 6 = some 49 := rfl
theorem p_0_7 : zRef 0 7 = some 52 := rfl
theorem p_0_8 : zRef 0 8 = some 53 := rfl
theorem p_0_9 : zRef 0 9 = some 61 := rfl
theorem p_0_10 : zRef 0 10 = some 67 := rfl
theorem p_0_11 : zRef 0 11 = some 71 := rfl
theorem p_0_12 : zRef 0 12 = some 72 := rfl
theorem p_49_0 : zRef 49 0 = some 29 := rfl
theorem p_49_1 : zRef 49 1 = some 41 := rfl
theorem p_49_2 : zRef 49 2 = some 50 := rfl
theorem p_49_3 : zRef 49 3 = some 51 := rfl
theorem p_52_0 : zRef 52 0 = some 31 := rfl
theorem p_53_0 : zRef 53 0 = some 33 := rfl
theorem p_53_1 : zRef 53 1 = some 54 := rfl
theorem p_53_2 : zRef 53 2 = some 55 := rfl
theorem p_53_3 : zRef 53 3 = some 56 := rfl
theorem p_53_4 : zRef 53 4 = some 57 := rfl
theorem p_53_5 : zRef 53 5 = some 58 := rfl
theorem p_53_6 : zRef 53 6 = some 59 := rfl
theorem p_53_7 : zRef 53 7 = some 60 := rfl
theorem p_61_0 : zRef 61 0 = some 41 := rfl
theorem p_61_1 : zRef 61 1 = some 62 := rfl
theorem p_61_2 : zRef 61 2 = some 63 := rfl
theorem p_61_3 : zRef 61 3 = some 64 := rfl
theorem p_61_4 : zRef 61 4 = some 65 := rfl
theorem p_61_5 : zRef 61 5 = some 66 := rfl
theorem p_67_0 : zRef 67 0 = some 33 := rfl
theorem p_67_1 : zRef 67 1 = some 41 := rfl
theorem p_67_2 : zRef 67 2 = some 68 := rfl
theorem p_67_3 : zRef 67 3 = some 69 := rfl
theorem p_67_4 : zRef 67 4 = some 70 := rfl
theorem p_73_0 : zRef 73 0 = some 74 := rfl
theorem p_73_1 : zRef 73 1 = some 75 := rfl
theorem p_73_2 : zRef 73 2 = some 76 := rfl
theorem p_73_3 : zRef 73 3 = some 77 := rfl
theorem p_73_4 : zRef 73 4 = some 78 := rfl
theorem p_73_5 : zRef 73 5 = some 79 := rfl
theorem p_73_6 : zRef 73 6 = some 80 := rfl
theorem p_73_7 : zRef 73 7 = some 81 := rfl
theorem p_73_8 : zRef 73 8 = some 82 := rfl
theorem p_73_9 : zRef 73 9 = some 83 := rfl
theorem p_73_14 : zRef 73 14 = some 84 := rfl
theorem p_73_15 : zRef 73 15 = some 85 := rfl
theorem p_73_16 : zRef 73 16 = some 86 := rfl
theorem p_73_17 : zRef 73 17 = some 87 := rfl
theorem p_73_19 : zRef 73 19 = some 88 := rfl
theorem p_73_25 : zRef 73 25 = some 89 := rfl
theorem p_73_30 : zRef 73 30 = some 90 := rfl
theorem p_73_32 : zRef 73 32 = some 91 := rfl
theorem p_73_33 : zRef 73 33 = some 92 := rfl
theorem p_73_34 : zRef 73 34 = some 93 := rfl
theorem p_73_35 : zRef 73 35 = some 94 := rfl
theorem p_73_36 : zRef 73 36 = some 95 := rfl
theorem p_73_37 : zRef 73 37 = some 96 := rfl
theorem p_73_38 : zRef 73 38 = some 97 := rfl
theorem p_73_45 : zRef 73 45 = some 98 := rfl
theorem p_73_46 : zRef 73 46 = some 99 := rfl
theorem p_73_47 : zRef 73 47 = some 100 := rfl
theorem p_73_48 : zRef 73 48 = some 101 := rfl
theorem p_73_49 : zRef 73 49 = some 102 := rfl
theorem p_73_50 : zRef 73 50 = some 103 := rfl
theorem zB_s {o : Nat} (h : zIsB o) : SH o = some (.inr 0) := by rcases h with rfl | rfl <;> rfl
theorem zB_lt {o n : Nat} (h : zIsB o) (hn : 73 ≤ n) : o < n := by rcases h with rfl | rfl <;> omega
theorem zB_s0 {o : Nat} (h : zIsB o) : SH (o + 1) = some (.inl (.byte, 81)) := by rcases h with rfl | rfl <;> rfl
theorem zB_l0 {o n : Nat} (h : zIsB o) (hn : 73 ≤ n) : o + 1 < n := by rcases h with rfl | rfl <;> omega
theorem zB_p0 {o : Nat} (h : zIsB o) : zRef o 0 = some (o + 1) := by rcases h with rfl | rfl <;> rfl
theorem zB_s1 {o : Nat} (h : zIsB o) : SH (o + 2) = some (.inl (.int, 324)) := by rcases h with rfl | rfl <;> rfl
theorem zB_l1 {o n : Nat} (h : zIsB o) (hn : 73 ≤ n) : o + 2 < n := by rcases h with rfl | rfl <;> omega
theorem zB_p1 {o : Nat} (h : zIsB o) : zRef o 1 = some (o + 2) := by rcases h with rfl | rfl <;> rfl
theorem zB_s2 {o : Nat} (h : zIsB o) : SH (o + 3) = some (.inl (.int, 81)) := by rcases h with rfl | rfl <;> rfl
theorem zB_l2 {o n : Nat} (h : zIsB o) (hn : 73 ≤ n) : o + 3 < n := by rcases h with rfl | rfl <;> omega
theorem zB_p2 {o : Nat} (h : zIsB o) : zRef o 2 = some (o + 3) := by rcases h with rfl | rfl <;> rfl
theorem zB_s3 {o : Nat} (h : zIsB o) : SH (o + 4) = some (.inl (.int, 81)) := by rcases h with rfl | rfl <;> rfl
theorem zB_l3 {o n : Nat} (h : zIsB o) (hn : 73 ≤ n) : o + 4 < n := by rcases h with rfl | rfl <;> omega
theorem zB_p3 {o : Nat} (h : zIsB o) : zRef o 3 = some (o + 4) := by rcases h with rfl | rfl <;> rfl
theorem zB_s4 {o : Nat} (h : zIsB o) : SH (o + 5) = some (.inl (.int, 81)) := by rcases h with rfl | rfl <;> rfl
theorem zB_l4 {o n : Nat} (h : zIsB o) (hn : 73 ≤ n) : o + 5 < n := by rcases h with rfl | rfl <;> omega
theorem zB_p4 {o : Nat} (h : zIsB o) : zRef o 4 = some (o + 5) := by rcases h with rfl | rfl <;> rfl
theorem zB_s5 {o : Nat} (h : zIsB o) : SH (o + 6) = some (.inl (.int, 3)) := by rcases h with rfl | rfl <;> rfl
theorem zB_l5 {o n : Nat} (h : zIsB o) (hn : 73 ≤ n) : o + 6 < n := by rcases h with rfl | rfl <;> omega
theorem zB_p5 {o : Nat} (h : zIsB o) : zRef o 5 = some (o + 6) := by rcases h with rfl | rfl <;> rfl
theorem zB_s6 {o : Nat} (h : zIsB o) : SH (o + 7) = some (.inl (.long, 3)) := by rcases h with rfl | rfl <;> rfl
theorem zB_l6 {o n : Nat} (h : zIsB o) (hn : 73 ≤ n) : o + 7 < n := by rcases h with rfl | rfl <;> omega
theorem zB_p6 {o : Nat} (h : zIsB o) : zRef o 6 = some (o + 7) := by rcases h with rfl | rfl <;> rfl
theorem zY_s {o : Nat} (h : zIsY o) : SH o = some (.inr 1) := by rcases h with rfl | rfl <;> rfl
theorem zY_lt {o n : Nat} (h : zIsY o) (hn : 73 ≤ n) : o < n := by rcases h with rfl | rfl <;> omega
theorem zY_s0 {o : Nat} (h : zIsY o) : SH (o + 1) = some (.inl (.byte, zYn o)) := by rcases h with rfl | rfl <;> rfl
theorem zY_l0 {o n : Nat} (h : zIsY o) (hn : 73 ≤ n) : o + 1 < n := by rcases h with rfl | rfl <;> omega
theorem zY_p0 {o : Nat} (h : zIsY o) : zRef o 0 = some (o + 1) := by rcases h with rfl | rfl <;> rfl
theorem zC_s {o : Nat} (h : zIsC o) : SH o = some (.inr 2) := by rcases h with rfl | rfl <;> rfl
theorem zC_lt {o n : Nat} (h : zIsC o) (hn : 73 ≤ n) : o < n := by rcases h with rfl | rfl <;> omega
theorem zT_s {o : Nat} (h : zIsT o) : SH o = some (.inr 7) := by rcases h with rfl | rfl <;> rfl
theorem zT_lt {o n : Nat} (h : zIsT o) (hn : 73 ≤ n) : o < n := by rcases h with rfl | rfl <;> omega
theorem zT_s0 {o : Nat} (h : zIsT o) : SH (o + 1) = some (.inl (.int, 250)) := by rcases h with rfl | rfl <;> rfl
theorem zT_l0 {o n : Nat} (h : zIsT o) (hn : 73 ≤ n) : o + 1 < n := by rcases h with rfl | rfl <;> omega
theorem zT_p0 {o : Nat} (h : zIsT o) : zRef o 0 = some (o + 1) := by rcases h with rfl | rfl <;> rfl
theorem zT_s1 {o : Nat} (h : zIsT o) : SH (o + 2) = some (.inl (.int, 250)) := by rcases h with rfl | rfl <;> rfl
theorem zT_l1 {o n : Nat} (h : zIsT o) (hn : 73 ≤ n) : o + 2 < n := by rcases h with rfl | rfl <;> omega
theorem zT_p1 {o : Nat} (h : zIsT o) : zRef o 1 = some (o + 2) := by rcases h with rfl | rfl <;> rfl
theorem zT_s2 {o : Nat} (h : zIsT o) : SH (o + 3) = some (.inl (.int, 250)) := by rcases h with rfl | rfl <;> rfl
theorem zT_l2 {o n : Nat} (h : zIsT o) (hn : 73 ≤ n) : o + 3 < n := by rcases h with rfl | rfl <;> omega
theorem zT_p2 {o : Nat} (h : zIsT o) : zRef o 2 = some (o + 3) := by rcases h with rfl | rfl <;> rfl
theorem zT_s3 {o : Nat} (h : zIsT o) : SH (o + 4) = some (.inl (.int, 250)) := by rcases h with rfl | rfl <;> rfl
theorem zT_l3 {o n : Nat} (h : zIsT o) (hn : 73 ≤ n) : o + 4 < n := by rcases h with rfl | rfl <;> omega
theorem zT_p3 {o : Nat} (h : zIsT o) : zRef o 3 = some (o + 4) := by rcases h with rfl | rfl <;> rfl
theorem zT_s4 {o : Nat} (h : zIsT o) : SH (o + 5) = some (.inl (.int, 250)) := by rcases h with rfl | rfl <;> rfl
theorem zT_l4 {o n : Nat} (h : zIsT o) (hn : 73 ≤ n) : o + 5 < n := by rcases h with rfl | rfl <;> omega
theorem zT_p4 {o : Nat} (h : zIsT o) : zRef o 4 = some (o + 5) := by rcases h with rfl | rfl <;> rfl
theorem zT_s5 {o : Nat} (h : zIsT o) : SH (o + 6) = some (.inl (.int, 250)) := by rcases h with rfl | rfl <;> rfl
theorem zT_l5 {o n : Nat} (h : zIsT o) (hn : 73 ≤ n) : o + 6 < n := by rcases h with rfl | rfl <;> omega
theorem zT_p5 {o : Nat} (h : zIsT o) : zRef o 5 = some (o + 6) := by rcases h with rfl | rfl <;> rfl
theorem zT_s6 {o : Nat} (h : zIsT o) : SH (o + 7) = some (.inl (.int, 250)) := by rcases h with rfl | rfl <;> rfl
theorem zT_l6 {o n : Nat} (h : zIsT o) (hn : 73 ≤ n) : o + 7 < n := by rcases h with rfl | rfl <;> omega
theorem zT_p6 {o : Nat} (h : zIsT o) : zRef o 6 = some (o + 7) := by rcases h with rfl | rfl <;> rfl
theorem zT_s7 {o : Nat} (h : zIsT o) : SH (o + 8) = some (.inl (.int, 250)) := by rcases h with rfl | rfl <;> rfl
theorem zT_l7 {o n : Nat} (h : zIsT o) (hn : 73 ≤ n) : o + 8 < n := by rcases h with rfl | rfl <;> omega
theorem zT_p7 {o : Nat} (h : zIsT o) : zRef o 7 = some (o + 8) := by rcases h with rfl | rfl <;> rfl
theorem zT_s8 {o : Nat} (h : zIsT o) : SH (o + 9) = some (.inl (.int, 250)) := by rcases h with rfl | rfl <;> rfl
theorem zT_l8 {o n : Nat} (h : zIsT o) (hn : 73 ≤ n) : o + 9 < n := by rcases h with rfl | rfl <;> omega
theorem zT_p8 {o : Nat} (h : zIsT o) : zRef o 8 = some (o + 9) := by rcases h with rfl | rfl <;> rfl
theorem zT_s9 {o : Nat} (h : zIsT o) : SH (o + 10) = some (.inl (.int, 250)) := by rcases h with rfl | rfl <;> rfl
theorem zT_l9 {o n : Nat} (h : zIsT o) (hn : 73 ≤ n) : o + 10 < n := by rcases h with rfl | rfl <;> omega
theorem zT_p9 {o : Nat} (h : zIsT o) : zRef o 9 = some (o + 10) := by rcases h with rfl | rfl <;> rfl
theorem zT_s10 {o : Nat} (h : zIsT o) : SH (o + 11) = some (.inl (.int, 250)) := by rcases h with rfl | rfl <;> rfl
theorem zT_l10 {o n : Nat} (h : zIsT o) (hn : 73 ≤ n) : o + 11 < n := by rcases h with rfl | rfl <;> omega
theorem zT_p10 {o : Nat} (h : zIsT o) : zRef o 10 = some (o + 11) := by rcases h with rfl | rfl <;> rfl
theorem zT_s11 {o : Nat} (h : zIsT o) : SH (o + 12) = some (.inl (.long, 750)) := by rcases h with rfl | rfl <;> rfl
theorem zT_l11 {o n : Nat} (h : zIsT o) (hn : 73 ≤ n) : o + 12 < n := by rcases h with rfl | rfl <;> omega
theorem zT_p11 {o : Nat} (h : zIsT o) : zRef o 11 = some (o + 12) := by rcases h with rfl | rfl <;> rfl
theorem zT_s12 {o : Nat} (h : zIsT o) : SH (o + 13) = some (.inl (.long, 750)) := by rcases h with rfl | rfl <;> rfl
theorem zT_l12 {o n : Nat} (h : zIsT o) (hn : 73 ≤ n) : o + 13 < n := by rcases h with rfl | rfl <;> omega
theorem zT_p12 {o : Nat} (h : zIsT o) : zRef o 12 = some (o + 13) := by rcases h with rfl | rfl <;> rfl
