/-! ===== behind the constructors: references that never change ===== -/
def zIsB (o : Nat) : Prop := o = 33 ∨ o = 41
def zIsT (o : Nat) : Prop := o = 1 ∨ o = 15
def zIsY (o : Nat) : Prop := o = 29 ∨ o = 31
def zIsC (o : Nat) : Prop := o = 71 ∨ o = 72
/-- the final references: object, field -/
def zRef (o j : Nat) : Option Nat :=
  match SH o with
  | some (.inr 0) => if j < 7 then some (o + 1 + j) else none
  | some (.inr 1) => if j = 0 then some (o + 1) else none
  | some (.inr 7) => if j < 13 then some (o + 1 + j) else none
  | some (.inr 9) => match j with
    | 2 => some 29 | 3 => some 31 | 4 => some 33 | 5 => some 41 | 6 => some 49 | 7 => some 52 | 8 => some 53 | 9 => some 61 | 10 => some 67 | 11 => some 71 | 12 => some 72 | _ => none
  | some (.inr 5) => match j with
    | 0 => some 29 | 1 => some 41 | 2 => some 50 | 3 => some 51 | _ => none
  | some (.inr 8) => if j = 0 then some 31 else none
  | some (.inr 4) => match j with
    | 0 => some 33 | 1 => some 54 | 2 => some 55 | 3 => some 56 | 4 => some 57 | 5 => some 58 | 6 => some 59 | 7 => some 60 | _ => none
  | some (.inr 3) => match j with
    | 0 => some 41 | 1 => some 62 | 2 => some 63 | 3 => some 64 | 4 => some 65 | 5 => some 66 | _ => none
  | some (.inr 6) => match j with
    | 0 => some 33 | 1 => some 41 | 2 => some 68 | 3 => some 69 | 4 => some 70 | _ => none
  | some (.inr 10) => match j with
    | 0 => some 74 | 1 => some 75 | 2 => some 76 | 3 => some 77 | 4 => some 78 | 5 => some 79 | 6 => some 80 | 7 => some 81 | 8 => some 82 | 9 => some 83 | 14 => some 84 | 15 => some 85 | 16 => some 86 | 17 => some 87 | 19 => some 88 | 25 => some 89 | 30 => some 90 | 32 => some 91 | 33 => some 92 | 34 => some 93 | 35 => some 94 | 36 => some 95 | 37 => some 96 | 38 => some 97 | 45 => some 98 | 46 => some 99 | 47 => some 100 | 48 => some 101 | 49 => some 102 | 50 => some 103 | _ => none
  | _ => none
def zFitI (ty : FieldType) (x : Int) : Prop := match ty with
  | .byte => -128 ≤ x ∧ x < 128
  | .boolean => x = 0 ∨ x = 1
  | _ => R32 x
def ZOk (n : Nat) (σ : ZSto) : Prop := (∀ o j a, o < n → zRef o j = some a → gP σ o j = some a) ∧ (∀ a i, R32 (gI σ a i)) ∧ (∀ a i ty len, SH a = some (.inl (ty, len)) → zFitI ty (gI σ a i))
def zpI (P : Int → ZSto → Prop) : Option Value → ZSto → Prop := fun r σ => ∃ v, r = some (iV v) ∧ R32 v ∧ P v σ
def zpZ (P : Int → ZSto → Prop) : Option Value → ZSto → Prop := fun r σ => ∃ v, r = some (iV v) ∧ (v = 0 ∨ v = 1) ∧ P v σ
def zpV (P : ZSto → Prop) : Option Value → ZSto → Prop := fun r σ => r = none ∧ P σ
def zpL (P : Int64 → ZSto → Prop) : Option Value → ZSto → Prop := fun r σ => ∃ v, r = some (.long v) ∧ P v σ
def zpR (X : ZX) (P : Nat → ZSto → Prop) : Option Value → ZSto → Prop := fun r σ => ∃ o, r = some (.ref (zB X + o)) ∧ P o σ
/-- a call behind the constructors -/
def Zk (X : ZX) (M : ZM) (d n : Nat) (vs : List Value) (σ : ZSto) (P : Option Value → ZSto → Prop) : Prop := ZOk n σ → Zc X M d n n vs σ (fun r σ' => ZOk n σ' ∧ P r σ')
def Zn (X : ZX) (M : ZM) (d n : Nat) (P : Option Value → ZSto → Prop) (pc : Nat) (ls : List (Option Value)) (st : List Value) (σ : ZSto) : Prop := Zm X M (zRm (d + 1) n n) (zZ X n n (fun r σ' => ZOk n σ' ∧ P r σ')) n n pc ls st σ
abbrev ZkI (X : ZX) (M : ZM) (d n : Nat) (vs : List Value) (σ : ZSto) (P : Int → ZSto → Prop) : Prop := Zk X M d n vs σ (zpI P)
abbrev ZkZ (X : ZX) (M : ZM) (d n : Nat) (vs : List Value) (σ : ZSto) (P : Int → ZSto → Prop) : Prop := Zk X M d n vs σ (zpZ P)
abbrev ZkV (X : ZX) (M : ZM) (d n : Nat) (vs : List Value) (σ : ZSto) (P : ZSto → Prop) : Prop := Zk X M d n vs σ (zpV P)
abbrev ZkL (X : ZX) (M : ZM) (d n : Nat) (vs : List Value) (σ : ZSto) (P : Int64 → ZSto → Prop) : Prop := Zk X M d n vs σ (zpL P)
abbrev ZkR (X : ZX) (M : ZM) (d n : Nat) (vs : List Value) (σ : ZSto) (P : Nat → ZSto → Prop) : Prop := Zk X M d n vs σ (zpR X P)
/-! ===== what is read behind what was written ===== -/
theorem gI_same (σ : ZSto) (a i : Nat) (x : Int) : gI (sI σ a i x) a i = x := by simp [gI, sI, up2]
theorem gI_f {σ : ZSto} {a i b j : Nat} {x : Int} (h : j ≠ i) : gI (sI σ a i x) b j = gI σ b j := by simp [gI, sI, up2, h]
theorem gI_c {σ : ZSto} {a i b j : Nat} {x : Int} (h : b ≠ a) : gI (sI σ a i x) b j = gI σ b j := by simp [gI, sI, up2, h]
theorem gI_if (σ : ZSto) (a i b j : Nat) (x : Int) : gI (sI σ a i x) b j = if b = a ∧ j = i then x else gI σ b j := rfl
theorem gI_sL (σ : ZSto) (a i : Nat) (x : Int64) (b j : Nat) : gI (sL σ a i x) b j = gI σ b j := rfl
theorem gI_sP (σ : ZSto) (a i : Nat) (x : Option Nat) (b j : Nat) : gI (sP σ a i x) b j = gI σ b j := rfl
theorem gL_sI (σ : ZSto) (a i : Nat) (x : Int) (b j : Nat) : gL (sI σ a i x) b j = gL σ b j := rfl
theorem gL_sP (σ : ZSto) (a i : Nat) (x : Option Nat) (b j : Nat) : gL (sP σ a i x) b j = gL σ b j := rfl
theorem gL_same (σ : ZSto) (a i : Nat) (x : Int64) : gL (sL σ a i x) a i = x := by simp [gL, sL, up2]
theorem gL_f {σ : ZSto} {a i b j : Nat} {x : Int64} (h : j ≠ i) : gL (sL σ a i x) b j = gL σ b j := by simp [gL, sL, up2, h]
theorem gL_c {σ : ZSto} {a i b j : Nat} {x : Int64} (h : b ≠ a) : gL (sL σ a i x) b j = gL σ b j := by simp [gL, sL, up2, h]
theorem gL_if (σ : ZSto) (a i b j : Nat) (x : Int64) : gL (sL σ a i x) b j = if b = a ∧ j = i then x else gL σ b j := rfl
theorem gP_sI (σ : ZSto) (a i : Nat) (x : Int) (b j : Nat) : gP (sI σ a i x) b j = gP σ b j := rfl
theorem gP_sL (σ : ZSto) (a i : Nat) (x : Int64) (b j : Nat) : gP (sL σ a i x) b j = gP σ b j := rfl
theorem gP_same (σ : ZSto) (a i : Nat) (x : Option Nat) : gP (sP σ a i x) a i = x := by simp [gP, sP, up2]
theorem gP_f {σ : ZSto} {a i b j : Nat} {x : Option Nat} (h : j ≠ i) : gP (sP σ a i x) b j = gP σ b j := by simp [gP, sP, up2, h]
theorem gP_c {σ : ZSto} {a i b j : Nat} {x : Option Nat} (h : b ≠ a) : gP (sP σ a i x) b j = gP σ b j := by simp [gP, sP, up2, h]
theorem zok_sI {n : Nat} {σ : ZSto} {a i : Nat} {x : Int} (h : ZOk n σ) (hr : R32 x) (hf : ∀ ty len, SH a = some (.inl (ty, len)) → zFitI ty x) : ZOk n (sI σ a i x) := by
  refine ⟨h.1, fun b j => ?_, fun b j ty len hs => ?_⟩
  · rw [gI_if]; split
    · exact hr
    · exact h.2.1 b j
  · rw [gI_if]; split
    next q => rw [q.1] at hs; exact hf ty len hs
    next => exact h.2.2 b j ty len hs
theorem zok_o {n : Nat} {σ : ZSto} {a i ci : Nat} {x : Int} (h : ZOk n σ) (hs : SH a = some (.inr ci)) (hr : R32 x) : ZOk n (sI σ a i x) := zok_sI h hr (fun ty len q => by rw [hs] at q; cases q)
theorem zok_i {n : Nat} {σ : ZSto} {a i len : Nat} {x : Int} (h : ZOk n σ) (hs : SH a = some (.inl (.int, len))) (hr : R32 x) : ZOk n (sI σ a i x) := zok_sI h hr (fun ty len q => by rw [hs] at q; cases q; exact hr)
theorem zok_b {n : Nat} {σ : ZSto} {a i len : Nat} {x : Int} (h : ZOk n σ) (hs : SH a = some (.inl (.byte, len))) (h2 : -128 ≤ x) (h3 : x < 128) : ZOk n (sI σ a i x) := zok_sI h ⟨by omega, by omega⟩ (fun ty len q => by rw [hs] at q; cases q; exact ⟨h2, h3⟩)
theorem zok_z {n : Nat} {σ : ZSto} {a i len : Nat} {x : Int} (h : ZOk n σ) (hs : SH a = some (.inl (.boolean, len))) (h2 : x = 0 ∨ x = 1) : ZOk n (sI σ a i x) := zok_sI h ⟨by omega, by omega⟩ (fun ty len q => by rw [hs] at q; cases q; exact h2)
theorem zok_l {n : Nat} {σ : ZSto} {a i : Nat} {x : Int64} (h : ZOk n σ) : ZOk n (sL σ a i x) := h
theorem zok_p {n : Nat} {σ : ZSto} {a i : Nat} {x : Option Nat} (h : ZOk n σ) (hz : zRef a i = none) : ZOk n (sP σ a i x) := by
  refine ⟨fun o j b ho hr => ?_, h.2.1, h.2.2⟩
  by_cases q : o = a ∧ j = i
  · rw [q.1, q.2, hz] at hr; cases hr
  · have : gP (sP σ a i x) o j = gP σ o j := by
      show (if o = a ∧ j = i then x else gP σ o j) = _
      rw [if_neg q]
    rw [this]; exact h.1 o j b ho hr
theorem r32_and (x y : Int) : R32 (andI x y) := ⟨Int32.le_toInt _, Int32.toInt_lt _⟩
theorem r32_or (x y : Int) : R32 (orI x y) := ⟨Int32.le_toInt _, Int32.toInt_lt _⟩
theorem r32_xor (x y : Int) : R32 (xorI x y) := ⟨Int32.le_toInt _, Int32.toInt_lt _⟩
theorem r32_shl (x y : Int) : R32 (shlI x y) := ⟨Int32.le_toInt _, Int32.toInt_lt _⟩
theorem r32_shr (x y : Int) : R32 (shrI x y) := ⟨Int32.le_toInt _, Int32.toInt_lt _⟩
theorem r32_ushr (x y : Int) : R32 (ushrI x y) := ⟨Int32.le_toInt _, Int32.toInt_lt _⟩
theorem r32_w8 (x : Int) : R32 (w8 x) := ⟨Int32.le_toInt _, Int32.toInt_lt _⟩
theorem r32_l2i (x : Int64) : R32 (l2iF x) := ⟨Int32.le_toInt _, Int32.toInt_lt _⟩
theorem r32_lcmp (x y : Int64) : R32 (lcmpF x y) := ⟨Int32.le_toInt _, Int32.toInt_lt _⟩
theorem r32_z {x : Int} (h : x = 0 ∨ x = 1) : R32 x := ⟨by omega, by omega⟩
theorem r32_v (v : Int32) : R32 v.toInt := ⟨Int32.le_toInt _, Int32.toInt_lt _⟩
def zMask : List Bool → List (Option Value) → List (Option Value)
  | [], _ => []
  | _, [] => []
  | true :: bs, o :: t => o :: zMask bs t
  | false :: bs, _ :: t => none :: zMask bs t
theorem zMask_at : ∀ (bs : List Bool) (ls : List (Option Value)) (k : Nat) (v : Value), (zMask bs ls)[k]? = some (some v) → ls[k]? = some (some v) := by
  intro bs
  induction bs with
  | nil => intro ls k v h; cases ls <;> simp [zMask] at h
  | cons b t ih =>
    intro ls k v h
    cases ls with
    | nil => cases b <;> simp [zMask] at h
    | cons o r =>
      cases b <;> cases k <;> simp [zMask] at h ⊢
      · exact ih r _ v h
      · exact h
      · exact ih r _ v h
section ZN
variable {X : ZX} {M N : ZM} {R : Room} {Z : List Frame → Array Value → State → State → Prop} {d n0 n pc idx : Nat} {ls : List (Option Value)} {st As : List Value} {σ : ZSto}
theorem r_mask (bs : List Bool) {ls2 : List (Option Value)} (he : zMask bs ls = ls2) (k : Zm X M R Z n0 n pc ls2 st σ) : Zm X M R Z n0 n pc ls st σ := by
  intro G p e s m args below meth c H locs lsA hF hL hP
  subst he
  exact k G p e s m args below meth c H locs lsA hF ⟨hL.1, hL.2.1, fun k v hk => hL.2.2 k v (zMask_at bs ls k v hk)⟩ hP
theorem r_getI {ci j o : Nat} {x : Int} (hd : decode M.2.1 pc = .ok (.getfield idx, 3)) (hl : ZF M.1.cls idx ci j) (ho : o < n) (hs : SH o = some (.inr ci)) (ht : zK (zTy ci j) = 0 ∨ zK (zTy ci j) = 1) (hv : gI σ o j = x) (k : Zm X M R Z n0 n (pc + 3) ls (iV x :: st) σ) : Zm X M R Z n0 n pc ls (.ref (zB X + o) :: st) σ := by
  refine r_getfield hd hl ho hs ?_ k
  subst hv
  cases h : zTy ci j <;> rw [h] at ht <;> simp [zK] at ht <;> rfl
theorem r_getP {ci j o a : Nat} (hd : decode M.2.1 pc = .ok (.getfield idx, 3)) (hl : ZF M.1.cls idx ci j) (ho : o < n) (hs : SH o = some (.inr ci)) (ht : zK (zTy ci j) = 2) (hv : gP σ o j = some a) (k : Zm X M R Z n0 n (pc + 3) ls (.ref (zB X + a) :: st) σ) : Zm X M R Z n0 n pc ls (.ref (zB X + o) :: st) σ := by
  refine r_getfield hd hl ho hs ?_ k
  cases h : zTy ci j <;> rw [h] at ht <;> simp [zK] at ht <;> simp [fV, hv, oV]
theorem r_putI {ci j o : Nat} {x : Int} (hd : decode M.2.1 pc = .ok (.putfield idx, 3)) (hl : ZF M.1.cls idx ci j) (ho : o < n) (hs : SH o = some (.inr ci)) (hfin : zFin ci j = false) (ht : zK (zTy ci j) = 0 ∨ (zK (zTy ci j) = 1 ∧ (x = 0 ∨ x = 1))) (k : Zm X M R Z n0 n (pc + 3) ls st (sI σ o j x)) : Zm X M R Z n0 n pc ls (iV x :: .ref (zB X + o) :: st) σ := by
  refine r_putfield hd hl ho hs hfin ?_ ?_ ?_ (fun k hk => fV_sI_ne (Or.inr hk)) (fun b hb => zE_sI_ne hb) k
  · cases h : zTy ci j <;> rw [h] at ht <;> simp [zK] at ht
    all_goals first | rfl | (rcases ht with rfl | rfl <;> rfl)
  · cases h : zTy ci j <;> rw [h] at ht <;> simp [zK] at ht
    all_goals first | rfl | (rcases ht with rfl | rfl <;> rfl)
  · cases h : zTy ci j <;> rw [h] at ht <;> simp [zK] at ht <;> simp [fV, gI_same]
theorem r_putP {ci j o a : Nat} (hd : decode M.2.1 pc = .ok (.putfield idx, 3)) (hl : ZF M.1.cls idx ci j) (ho : o < n) (hs : SH o = some (.inr ci)) (hfin : zFin ci j = false) (ht : zK (zTy ci j) = 2) (k : Zm X M R Z n0 n (pc + 3) ls st (sP σ o j (some a))) : Zm X M R Z n0 n pc ls (.ref (zB X + a) :: .ref (zB X + o) :: st) σ := by
  refine r_putfield hd hl ho hs hfin ?_ ?_ ?_ (fun k hk => fV_sP_ne (Or.inr hk)) (fun b hb => zE_sP_ne hb) k
  · cases h : zTy ci j <;> rw [h] at ht <;> simp [zK] at ht <;> rfl
  · cases h : zTy ci j <;> rw [h] at ht <;> simp [zK] at ht <;> rfl
  · cases h : zTy ci j <;> rw [h] at ht <;> simp [zK] at ht <;> simp [fV, gP_same, oV]
theorem n_callV {o ci k : Nat} {q : vw_C} {z : List Value} {P : Option Value → ZSto → Prop} (hd : decode M.2.1 pc = .ok (.invokevirtual idx, 3)) (hN : ZMi N) (hl : ZLk M.1.cls idx N) (hk : (parseMethodDescriptor N.1.desc).map (fun d => d.parameters.length) = some k) (hA : As.length = k) (ho : o < n) (hs : SH o = some (.inr ci)) (hq : zCl[ci]? = some q) (hqc : q.1 = N.1.cls) (hR : zFits R d n0 n) (hcat : (st.map fun v => v.category).sum ≤ 8) (hz : z = As.reverse ++ .ref (zB X + o) :: st) (hok : ZOk n σ)
    (K : Zk X N d n (.ref (zB X + o) :: As) σ P) (kk : ∀ r σ', ZOk n σ' → P r σ' → Zm X M R Z n0 n (pc + 3) ls (r.toList ++ st) σ') : Zm X M R Z n0 n pc ls z σ :=
  r_callV hd hN hl hk hA ho hs hq hqc hR (Nat.le_refl n) hcat hz ((K hok).mono (fun r σ' h => kk r σ' h.1 h.2))
theorem n_callS {k : Nat} {z : List Value} {P : Option Value → ZSto → Prop} (hd : decode M.2.1 pc = .ok (.invokestatic idx, 3)) (hN : ZMs N) (hl : ZLk M.1.cls idx N) (hk : (parseMethodDescriptor N.1.desc).map (fun d => d.parameters.length) = some k) (hA : As.length = k) (hR : zFits R d n0 n) (hcat : (st.map fun v => v.category).sum ≤ 8) (hz : z = As.reverse ++ st) (hok : ZOk n σ)
    (K : Zk X N d n As σ P) (kk : ∀ r σ', ZOk n σ' → P r σ' → Zm X M R Z n0 n (pc + 3) ls (r.toList ++ st) σ') : Zm X M R Z n0 n pc ls z σ :=
  r_callS hd hN hl hk hA hR (Nat.le_refl n) hcat hz ((K hok).mono (fun r σ' h => kk r σ' h.1 h.2))
theorem Zk.mono {vs : List Value} {P P' : Option Value → ZSto → Prop} (h : Zk X M d n vs σ P) (hq : ∀ r σ', P r σ' → P' r σ') : Zk X M d n vs σ P' := fun hok => (h hok).mono (fun r σ' q => ⟨q.1, hq r σ' q.2⟩)
theorem Zk.ok {vs : List Value} {P : Option Value → ZSto → Prop} (h : ZOk n σ → Zk X M d n vs σ P) : Zk X M d n vs σ P := fun hok => h hok hok
theorem ZkI.mono {vs : List Value} {P P' : Int → ZSto → Prop} (h : ZkI X M d n vs σ P) (hq : ∀ v σ', R32 v → P v σ' → P' v σ') : ZkI X M d n vs σ P' := Zk.mono h (fun _ σ' ⟨v, e, hr, hp⟩ => ⟨v, e, hr, hq v σ' hr hp⟩)
theorem ZkZ.mono {vs : List Value} {P P' : Int → ZSto → Prop} (h : ZkZ X M d n vs σ P) (hq : ∀ v σ', (v = 0 ∨ v = 1) → P v σ' → P' v σ') : ZkZ X M d n vs σ P' := Zk.mono h (fun _ σ' ⟨v, e, hr, hp⟩ => ⟨v, e, hr, hq v σ' hr hp⟩)
theorem ZkV.mono {vs : List Value} {P P' : ZSto → Prop} (h : ZkV X M d n vs σ P) (hq : ∀ σ', P σ' → P' σ') : ZkV X M d n vs σ P' := Zk.mono h (fun _ σ' ⟨e, hp⟩ => ⟨e, hq σ' hp⟩)
theorem ZkL.mono {vs : List Value} {P P' : Int64 → ZSto → Prop} (h : ZkL X M d n vs σ P) (hq : ∀ v σ', P v σ' → P' v σ') : ZkL X M d n vs σ P' := Zk.mono h (fun _ σ' ⟨v, e, hp⟩ => ⟨v, e, hq v σ' hp⟩)
theorem ZkR.mono {vs : List Value} {P P' : Nat → ZSto → Prop} (h : ZkR X M d n vs σ P) (hq : ∀ v σ', P v σ' → P' v σ') : ZkR X M d n vs σ P' := Zk.mono h (fun _ σ' ⟨v, e, hp⟩ => ⟨v, e, hq v σ' hp⟩)
theorem zk_of {vs : List Value} {P : Option Value → ZSto → Prop} (hy : plainName M.1.cls = true) (hlen : (lg_sl vs).length ≤ M.2.2.1) (he : zEnt vs M.2.2.1 = ls) (k : ZOk n σ → Zn X M d n P 0 ls [] σ) : Zk X M (d + 1) n vs σ P := fun hok => zc_of hy hlen he (k hok)
end ZN
