theorem cnt_8 {P : Nat → Prop} {k i : Nat} (hP : ∀ j, j < 64 → (P j ↔ k / 2 ^ j % 2 = 1)) (hi : i < 8) : cnt P (8 * i + 8) = cnt P (8 * i) + pc8 (byt k i) := by
  have one : ∀ j, j < 8 → cnt P (8 * i + j + 1) = cnt P (8 * i + j) + (k / 256 ^ i) / 2 ^ j % 2 := by
    intro j hj
    have h := hP (8 * i + j) (by omega)
    have e : k / 2 ^ (8 * i + j) = (k / 256 ^ i) / 2 ^ j := by
      rw [Nat.pow_add, Nat.pow_mul, Nat.div_div_eq_div_mul]
    rw [e] at h
    by_cases z : P (8 * i + j)
    · rw [cnt_s z, h.mp z]
    · rw [cnt_n z]
      have : ¬ (k / 256 ^ i) / 2 ^ j % 2 = 1 := fun w => z (h.mpr w)
      omega
  have o0 := one 0 (by omega)
  have o1 := one 1 (by omega)
  have o2 := one 2 (by omega)
  have o3 := one 3 (by omega)
  have o4 := one 4 (by omega)
  have o5 := one 5 (by omega)
  have o6 := one 6 (by omega)
  have o7 := one 7 (by omega)
  unfold pc8 byt
  generalize k / 256 ^ i = x at *
  simp only [Nat.add_zero, Nat.add_assoc, Nat.reduceAdd, Nat.reducePow, Nat.div_one] at o0 o1 o2 o3 o4 o5 o6 o7
  omega
theorem cnt_bits {k : Nat} (hk : k < 2 ^ 64) : cnt (fun i => lB (lN k) i = true) 64 = pc8 (byt k 0) + pc8 (byt k 1) + pc8 (byt k 2) + pc8 (byt k 3) + pc8 (byt k 4) + pc8 (byt k 5) + pc8 (byt k 6) + pc8 (byt k 7) := by
  have hP : ∀ j, j < 64 → ((lB (lN k) j = true) ↔ k / 2 ^ j % 2 = 1) := by
    intro j hj
    rw [lB_N hj, Nat.testBit_eq_decide_div_mod_eq]; simp
  have h0 := cnt_8 (P := fun i => lB (lN k) i = true) hP (i := 0) (by omega)
  have h1 := cnt_8 (P := fun i => lB (lN k) i = true) hP (i := 1) (by omega)
  have h2 := cnt_8 (P := fun i => lB (lN k) i = true) hP (i := 2) (by omega)
  have h3 := cnt_8 (P := fun i => lB (lN k) i = true) hP (i := 3) (by omega)
  have h4 := cnt_8 (P := fun i => lB (lN k) i = true) hP (i := 4) (by omega)
  have h5 := cnt_8 (P := fun i => lB (lN k) i = true) hP (i := 5) (by omega)
  have h6 := cnt_8 (P := fun i => lB (lN k) i = true) hP (i := 6) (by omega)
  have h7 := cnt_8 (P := fun i => lB (lN k) i = true) hP (i := 7) (by omega)
  simp only [Nat.reduceMul, Nat.reduceAdd] at h0 h1 h2 h3 h4 h5 h6 h7
  have z : cnt (fun i => lB (lN k) i = true) 0 = 0 := rfl
  omega
/-! ===== parts of a board: their heads, their numbers ===== -/
/-- the least point of its part -/
def HdS (m : Nat) (S : Nat → Prop) (h : Nat) : Prop := h < m * m ∧ S h ∧ ∀ r, Rch m S h r → h ≤ r
theorem HdS.uniq {m : Nat} {S : Nat → Prop} {h h' q : Nat} (a : HdS m S h) (b : HdS m S h') (c : Rch m S h q) (d : Rch m S h' q) : h = h' := by
  have e : Rch m S h h' := c.tr (d.symm b.2.1)
  have f : Rch m S h' h := d.tr (c.symm a.2.1)
  have := a.2.2 h' e
  have := b.2.2 h f
  omega
theorem HdS.ex {m : Nat} {S : Nat → Prop} : ∀ (q : Nat), q < m * m → S q → ∃ h, HdS m S h ∧ Rch m S h q := by
  intro q
  induction q using Nat.strongRecOn with
  | _ q ih =>
    intro hq hs
    by_cases z : ∀ r, Rch m S q r → q ≤ r
    · exact ⟨q, ⟨hq, hs, z⟩, Rch.rf⟩
    · have : ∃ r, Rch m S q r ∧ r < q := Classical.byContradiction (fun w => z (fun r hr => Classical.byContradiction (fun y => w ⟨r, hr, by omega⟩)))
      obtain ⟨r, hr, hlt⟩ := this
      obtain ⟨h, h1, h2⟩ := ih r hlt (hr.lt hq) (hr.inS hs)
      exact ⟨h, h1, h2.tr (hr.symm hs)⟩
/-- a point that is in no part met so far is a head -/
theorem HdS.iff {m p : Nat} {S : Nat → Prop} (hp : p < m * m) (hs : S p) : (¬ ∃ r, r < p ∧ S r ∧ Rch m S r p) ↔ HdS m S p := by
  constructor
  · intro h
    refine ⟨hp, hs, fun r hr => Classical.byContradiction (fun z => h ⟨r, by omega, hr.inS hs, hr.symm hs⟩)⟩
  · rintro h ⟨r, h1, h2, h3⟩
    have := h.2.2 r (h3.symm h2)
    omega
/-- two heads of one kind never touch -/
theorem HdS.apart {m p q : Nat} {S : Nat → Prop} (a : HdS m S p) (b : HdS m S q) (h : Adj m p q) : False := by
  have e : Rch m S p q := Rch.rf.step h b.2.1
  have f : Rch m S q p := Rch.rf.step h.symm a.2.1
  have h1 := a.2.2 q e
  have h2 := b.2.2 p f
  have : p = q := by omega
  subst this
  obtain ⟨h3, h4, h5⟩ := h
  have hm : 0 < m := by
    by_cases z : m = 0
    · subst z; simp at h3
    · omega
  omega
theorem row_le {m r : Nat} {P : Nat → Prop} (hP : ∀ p, p + 1 < m * (r + 1) → m * r ≤ p → P p → ¬ P (p + 1)) : ∀ j, j ≤ m → cnt P (m * r + j) ≤ cnt P (m * r) + (j + 1) / 2 ∧ ((j = 0 ∨ ¬ P (m * r + j - 1)) → cnt P (m * r + j) ≤ cnt P (m * r) + j / 2) := by
  intro j
  induction j with
  | zero => intro _; exact ⟨by simp, fun _ => by simp⟩
  | succ j ih =>
    intro hj
    obtain ⟨i1, i2⟩ := ih (by omega)
    have hmr : m * (r + 1) = m * r + m := Nat.mul_succ m r
    by_cases z : P (m * r + j)
    · have e := cnt_s (P := P) (n := m * r + j) z
      rw [show m * r + (j + 1) = m * r + j + 1 by omega, e]
      refine ⟨?_, fun w => ?_⟩
      · by_cases j0 : j = 0
        · subst j0; have := i2 (Or.inl rfl); omega
        · have hn : ¬ P (m * r + j - 1) := fun w => by
            have := hP (m * r + j - 1) (by omega) (by omega) w
            rw [show m * r + j - 1 + 1 = m * r + j by omega] at this
            exact this z
          have := i2 (Or.inr hn)
          omega
      · rcases w with w | w
        · omega
        · rw [show m * r + j + 1 - 1 = m * r + j by omega] at w; exact absurd z w
    · have e := cnt_n (P := P) (n := m * r + j) z
      rw [show m * r + (j + 1) = m * r + j + 1 by omega, e]
      exact ⟨by omega, fun _ => by omega⟩
theorem heads_lt {m : Nat} {S : Nat → Prop} (h9 : m ≤ 9) : cnt (HdS m S) (m * m) ≤ 45 := by
  have key : ∀ r, r ≤ m → cnt (HdS m S) (m * r) ≤ r * 5 := by
    intro r
    induction r with
    | zero => intro _; simp [cnt]
    | succ r ih =>
      intro hr
      have h1 := ih (by omega)
      have hmr : m * (r + 1) = m * r + m := Nat.mul_succ m r
      have hmm : m * (r + 1) ≤ m * m := Nat.mul_le_mul_left m hr
      have := (row_le (m := m) (r := r) (P := HdS m S) (fun p h2 h3 a b => ?_) m (Nat.le_refl m)).1
      · rw [← hmr] at this; omega
      · refine a.apart b ⟨by omega, by omega, Or.inr (Or.inr (Or.inl ⟨rfl, ?_⟩))⟩
        intro z
        have hm : 0 < m := by omega
        have e1 : p + 1 = m * r + (p + 1 - m * r) := by omega
        rw [e1, Nat.mul_add_mod, Nat.mod_eq_of_lt (by omega)] at z
        omega
  have := key m (Nat.le_refl m)
  omega
/-- counting by numbers is counting by heads -/
theorem cnt_ix {H P : Nat → Prop} : ∀ n, cnt (fun q => H q ∧ P (cnt H q)) n = cnt P (cnt H n) := by
  intro n
  induction n with
  | zero => rfl
  | succ n ih =>
    by_cases z : H n
    · rw [cnt_s (P := H) z]
      by_cases w : P (cnt H n)
      · rw [cnt_s (P := fun q => H q ∧ P (cnt H q)) ⟨z, w⟩, cnt_s (P := P) w, ih]
      · rw [cnt_n (P := fun q => H q ∧ P (cnt H q)) (fun y => w y.2), cnt_n (P := P) w, ih]
    · rw [cnt_n (P := H) z, cnt_n (P := fun q => H q ∧ P (cnt H q)) (fun y => z y.1), ih]
/-- each number has its head -/
theorem ix_ex {H : Nat → Prop} : ∀ n j, j < cnt H n → ∃ q, q < n ∧ H q ∧ cnt H q = j := by
  intro n
  induction n with
  | zero => intro j hj; exact absurd hj (Nat.not_lt_zero _)
  | succ n ih =>
    intro j hj
    by_cases z : H n
    · rw [cnt_s (P := H) z] at hj
      by_cases e : j = cnt H n
      · exact ⟨n, by omega, z, e.symm⟩
      · obtain ⟨q, a, b, c⟩ := ih j (by omega)
        exact ⟨q, by omega, b, c⟩
    · rw [cnt_n (P := H) z] at hj
      obtain ⟨q, a, b, c⟩ := ih j hj
      exact ⟨q, by omega, b, c⟩
theorem ix_inj {H : Nat → Prop} {p q : Nat} (hp : H p) (hq : H q) (e : cnt H p = cnt H q) : p = q := by
  have h1 : ¬ p < q := fun z => by
    have a := cnt_s (P := H) hp
    have b : cnt H (p + 1) ≤ cnt H q := cnt_up (by omega)
    omega
  have h2 : ¬ q < p := fun z => by
    have a := cnt_s (P := H) hq
    have b : cnt H (q + 1) ≤ cnt H p := cnt_up (by omega)
    omega
  omega
theorem ix_lt {H : Nat → Prop} {n q : Nat} (hq : q < n) (h : H q) : cnt H q < cnt H n := by
  have a := cnt_s (P := H) h
  have b : cnt H (q + 1) ≤ cnt H n := cnt_up (by omega)
  omega
/-! ===== Benson: what lives ===== -/
/-- points of colour c; the others -/
def Sc (bd : Nat → Int) (c : Int) : Nat → Prop := fun x => bd x = c
def Sr (bd : Nat → Int) (c : Int) : Nat → Prop := fun x => bd x ≠ c
/-- the region of q touches the chain of h -/
def Tch (m : Nat) (bd : Nat → Int) (c : Int) (q h : Nat) : Prop := ∃ p b, Rch m (Sr bd c) q p ∧ Adj m p b ∧ Sc bd c b ∧ Rch m (Sc bd c) h b
/-- the region of q is vital to the chain of h -/
def Vit (m : Nat) (bd : Nat → Int) (c : Int) (q h : Nat) : Prop := (∃ p, Rch m (Sr bd c) q p ∧ bd p = 0) ∧ ∀ p, Rch m (Sr bd c) q p → bd p = 0 → ∃ b, Adj m p b ∧ Sc bd c b ∧ Rch m (Sc bd c) h b
/-- chains and regions that keep each other alive -/
def Keep (m : Nat) (bd : Nat → Int) (c : Int) (C R : Nat → Prop) : Prop := (∀ h, C h → HdS m (Sc bd c) h ∧ 2 ≤ cnt (fun q => R q ∧ Vit m bd c q h) (m * m)) ∧ ∀ q, R q → HdS m (Sr bd c) q ∧ ∀ h, HdS m (Sc bd c) h → Tch m bd c q h → C h
def Live (m : Nat) (bd : Nat → Int) (c : Int) (h : Nat) : Prop := ∃ C R, Keep m bd c C R ∧ C h
