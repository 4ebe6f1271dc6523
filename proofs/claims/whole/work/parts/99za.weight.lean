/-! ===== weights over a tree ===== -/
noncomputable def smP (A : Nat → Prop) (w : Nat → Nat) : Nat → Nat
  | 0 => 0
  | k + 1 => smP A w k + iteP (A k) (w k) 0
theorem smP_y {A : Nat → Prop} {w : Nat → Nat} {k : Nat} (h : A k) : smP A w (k + 1) = smP A w k + w k := by
  show _ + iteP _ _ _ = _
  rw [iteP_t h]
theorem smP_n {A : Nat → Prop} {w : Nat → Nat} {k : Nat} (h : ¬ A k) : smP A w (k + 1) = smP A w k := by
  show _ + iteP _ _ _ = _
  rw [iteP_f h]; rfl
theorem smP_le {A A' : Nat → Prop} {w w' : Nat → Nat} : ∀ k, (∀ j, j < k → A j → A' j ∧ w j ≤ w' j) → smP A w k ≤ smP A' w' k := by
  intro k
  induction k with
  | zero => intro _; exact Nat.le_refl _
  | succ k ih =>
    intro h
    have e := ih (fun j hj => h j (by omega))
    by_cases a : A k
    · obtain ⟨b, c⟩ := h k (by omega) a
      rw [smP_y a, smP_y b]; omega
    · rw [smP_n a]
      by_cases b : A' k
      · rw [smP_y b]; omega
      · rw [smP_n b]; exact e
theorem smP_or {A A' C : Nat → Prop} {w : Nat → Nat} : ∀ k, (∀ j, j < k → (C j ↔ (A j ∨ A' j)) ∧ ¬ (A j ∧ A' j)) → smP C w k = smP A w k + smP A' w k := by
  intro k
  induction k with
  | zero => intro _; rfl
  | succ k ih =>
    intro h
    have e := ih (fun j hj => h j (by omega))
    obtain ⟨h1, h2⟩ := h k (by omega)
    by_cases a : A k
    · have b : ¬ A' k := fun z => h2 ⟨a, z⟩
      rw [smP_y a, smP_n b, smP_y (h1.mpr (Or.inl a))]; omega
    · by_cases b : A' k
      · rw [smP_n a, smP_y b, smP_y (h1.mpr (Or.inr b))]; omega
      · rw [smP_n a, smP_n b, smP_n (fun z => (h1.mp z).elim a b)]; exact e
theorem smP_add {A : Nat → Prop} {w w' : Nat → Nat} : ∀ k, smP A (fun j => w j + w' j) k = smP A w k + smP A w' k := by
  intro k
  induction k with
  | zero => rfl
  | succ k ih =>
    by_cases a : A k
    · rw [smP_y a, smP_y a, smP_y a, ih]; omega
    · rw [smP_n a, smP_n a, smP_n a, ih]
theorem smP_0 {A : Nat → Prop} {w : Nat → Nat} : ∀ k, (∀ j, j < k → A j → w j = 0) → smP A w k = 0 := by
  intro k
  induction k with
  | zero => intro _; rfl
  | succ k ih =>
    intro h
    have e := ih (fun j hj => h j (by omega))
    by_cases a : A k
    · rw [smP_y a, e, h k (by omega) a]
    · rw [smP_n a]; exact e
theorem smP_ex {par : Nat → Int} {A : Nat → Prop} {g : Nat → Nat} {k : Nat} : ∀ N, smP A (fun i => smP (fun c => par c = (i : Int)) g k) N = smP (fun c => ∃ i : Nat, i < N ∧ A i ∧ par c = (i : Int)) g k := by
  intro N
  induction N with
  | zero => exact (smP_0 k (fun j _ ⟨i, hi, _⟩ => by omega)).symm
  | succ N ih =>
    by_cases a : A N
    · rw [smP_y a, ih]
      refine (smP_or k (fun j _ => ⟨⟨?_, ?_⟩, ?_⟩)).symm
      · rintro ⟨i, hi, h1, h2⟩
        by_cases e : i = N
        · rw [e] at h2; exact Or.inr h2
        · exact Or.inl ⟨i, by omega, h1, h2⟩
      · rintro (⟨i, hi, h1, h2⟩ | h)
        · exact ⟨i, by omega, h1, h2⟩
        · exact ⟨N, by omega, a, h⟩
      · rintro ⟨⟨i, hi, _, h2⟩, h⟩
        have : (i : Int) = (N : Int) := by rw [← h2]; exact h
        omega
    · rw [smP_n a, ih]
      refine Nat.le_antisymm (smP_le k (fun j _ ⟨i, hi, h1, h2⟩ => ⟨⟨i, by omega, h1, h2⟩, Nat.le_refl _⟩)) (smP_le k (fun j _ ⟨i, hi, h1, h2⟩ => ⟨⟨i, ?_, h1, h2⟩, Nat.le_refl _⟩))
      have : i ≠ N := fun e => a (by rw [← e]; exact h1)
      omega
/-- the weight of what hangs below i -/
noncomputable def wsub (w : Nat → Nat) (par : Nat → Int) (k : Nat) : Nat → Nat → Nat
  | 0, _ => 0
  | f + 1, i => w i + smP (fun c => par c = (i : Int)) (wsub w par k f) k
theorem wsub_lv {w : Nat → Nat} {par dep : Nat → Int} {k : Nat} (hd : ∀ c, c < k → ∀ i : Nat, par c = (i : Int) → dep c = dep i + 1) : ∀ (f : Nat) (dd : Int) (A : Nat → Prop), (∀ i, i < k → A i → dep i = dd) → smP A (wsub w par k f) k ≤ smP (fun j => dd ≤ dep j) w k := by
  intro f
  induction f with
  | zero =>
    intro dd A _
    rw [smP_0 (A := A) (w := wsub w par k 0) k (fun j _ _ => rfl)]
    exact Nat.zero_le _
  | succ f ih =>
    intro dd A hA
    have e1 : smP A (wsub w par k (f + 1)) k = smP A w k + smP A (fun i => smP (fun c => par c = (i : Int)) (wsub w par k f) k) k := smP_add k
    rw [e1, smP_ex]
    have e2 := ih (dd + 1) (fun c => ∃ i : Nat, i < k ∧ A i ∧ par c = (i : Int)) (fun c hc ⟨i, hi, h1, h2⟩ => by rw [hd c hc i h2, hA i hi h1])
    have e3 : smP (fun j => dd ≤ dep j) w k = smP (fun j => dep j = dd) w k + smP (fun j => dd + 1 ≤ dep j) w k := smP_or k (fun j _ => ⟨⟨fun h => by omega, fun h => by omega⟩, fun h => by omega⟩)
    have e4 : smP A w k ≤ smP (fun j => dep j = dd) w k := smP_le k (fun j hj ha => ⟨hA j hj ha, Nat.le_refl _⟩)
    omega
theorem wsub_top {w : Nat → Nat} {par dep : Nat → Int} {k : Nat} (hk : 0 < k) (hd : ∀ c, c < k → ∀ i : Nat, par c = (i : Int) → dep c = dep i + 1) (f : Nat) : wsub w par k f 0 ≤ smP (fun _ => True) w k := by
  have h := wsub_lv (w := w) (par := par) (dep := dep) hd f (dep 0) (fun i => i = 0) (fun i _ e => by rw [e])
  have e : ∀ j, 0 < j → smP (fun i => i = 0) (wsub w par k f) j = wsub w par k f 0 := by
    intro j
    induction j with
    | zero => intro z; omega
    | succ j ih =>
      intro _
      by_cases z : j = 0
      · subst z; rw [smP_y (A := fun i => i = 0) rfl]; show 0 + _ = _; omega
      · rw [smP_n (A := fun i => i = 0) z]; exact ih (by omega)
  rw [e k hk] at h
  exact Nat.le_trans h (smP_le k (fun j _ _ => ⟨trivial, Nat.le_refl _⟩))
