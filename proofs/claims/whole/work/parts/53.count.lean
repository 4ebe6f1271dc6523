/-! ===== counting ===== -/
noncomputable def cnt (P : Nat → Prop) : Nat → Nat
  | 0 => 0
  | n + 1 => cnt P n + @ite _ (P n) (Classical.propDecidable _) 1 0
theorem cnt_s {P : Nat → Prop} {n : Nat} (h : P n) : cnt P (n + 1) = cnt P n + 1 := by
  show cnt P n + @ite _ (P n) (Classical.propDecidable _) 1 0 = _
  rw [if_pos h]
theorem cnt_n {P : Nat → Prop} {n : Nat} (h : ¬ P n) : cnt P (n + 1) = cnt P n := by
  show cnt P n + @ite _ (P n) (Classical.propDecidable _) 1 0 = _
  rw [if_neg h]; rfl
theorem cnt_congr {P Q : Nat → Prop} {n : Nat} (h : ∀ i, i < n → (P i ↔ Q i)) : cnt P n = cnt Q n := by
  induction n with
  | zero => rfl
  | succ n ih =>
    have e := ih (fun i hi => h i (by omega))
    by_cases q : P n
    · rw [cnt_s q, cnt_s ((h n (by omega)).mp q), e]
    · rw [cnt_n q, cnt_n (fun z => q ((h n (by omega)).mpr z)), e]
theorem cnt_le (P : Nat → Prop) (n : Nat) : cnt P n ≤ n := by
  induction n with
  | zero => exact Nat.le_refl 0
  | succ n ih =>
    by_cases q : P n
    · rw [cnt_s q]; omega
    · rw [cnt_n q]; omega
theorem cnt_0 {P : Nat → Prop} {n : Nat} (h : ∀ i, i < n → ¬ P i) : cnt P n = 0 := by
  induction n with
  | zero => rfl
  | succ n ih => rw [cnt_n (h n (by omega)), ih (fun i hi => h i (by omega))]
theorem cnt_0' {P : Nat → Prop} {n : Nat} (h : cnt P n = 0) : ∀ i, i < n → ¬ P i := by
  induction n with
  | zero => intro i hi; omega
  | succ n ih =>
    intro i hi
    by_cases q : P n
    · rw [cnt_s q] at h; omega
    · rw [cnt_n q] at h
      by_cases e : i = n
      · rw [e]; exact q
      · exact ih h i (by omega)
/-- one more -/
theorem cnt_add {P Q : Nat → Prop} {n b : Nat} (hb : b < n) (hp : ¬ P b) (hq : Q b) (h : ∀ i, i < n → i ≠ b → (Q i ↔ P i)) : cnt Q n = cnt P n + 1 := by
  induction n with
  | zero => omega
  | succ n ih =>
    by_cases e : b = n
    · subst e
      rw [cnt_s hq, cnt_n hp, cnt_congr (fun i hi => h i (by omega) (by omega))]
    · have := ih (by omega) (fun i hi he => h i (by omega) he)
      by_cases q : P n
      · rw [cnt_s q, cnt_s ((h n (by omega) (fun z => e z.symm)).mpr q), this]
      · rw [cnt_n q, cnt_n (fun z => q ((h n (by omega) (fun z => e z.symm)).mp z)), this]
theorem cnt_lt {P : Nat → Prop} {n b : Nat} (hb : b < n) (hp : ¬ P b) : cnt P n < n := by
  have := cnt_add (P := P) (Q := fun i => P i ∨ i = b) hb hp (Or.inr rfl) (fun i _ he => by simp [he])
  have := cnt_le (fun i => P i ∨ i = b) n
  omega
theorem cnt_pos {P : Nat → Prop} {n b : Nat} (hb : b < n) (hp : P b) : 0 < cnt P n := by
  have : ¬ cnt P n = 0 := fun z => cnt_0' z b hb hp
  omega
theorem cnt_mono {P Q : Nat → Prop} {n : Nat} (h : ∀ i, i < n → P i → Q i) : cnt P n ≤ cnt Q n := by
  induction n with
  | zero => exact Nat.le_refl 0
  | succ n ih =>
    have := ih (fun i hi => h i (by omega))
    by_cases q : P n
    · rw [cnt_s q, cnt_s (h n (by omega) q)]; omega
    · rw [cnt_n q]
      by_cases q2 : Q n
      · rw [cnt_s q2]; omega
      · rw [cnt_n q2]; exact this
theorem cnt_1 {P : Nat → Prop} {n b : Nat} (h1 : cnt P n = 1) (hb : b < n) (hp : P b) : ∀ i, i < n → P i → i = b := by
  intro i hi hpi
  by_cases e : i = b
  · exact e
  · exfalso
    have := cnt_add (P := fun j => P j ∧ j ≠ b) (Q := P) hb (fun z => z.2 rfl) hp (fun j _ hj => ⟨fun z => ⟨z, hj⟩, fun z => z.1⟩)
    have h2 : 0 < cnt (fun j => P j ∧ j ≠ b) n := cnt_pos hi ⟨hpi, e⟩
    omega
theorem cnt_one {n b : Nat} (hb : b < n) : cnt (fun i => i = b) n = 1 := by
  have := cnt_add (P := fun _ => False) (Q := fun i => i = b) hb (fun z => z) rfl (fun i _ he => by simp [he])
  rw [this, cnt_0 (fun _ _ z => z)]
/-- two disjoint parts -/
theorem cnt_or {P Q : Nat → Prop} {n : Nat} (h : ∀ i, i < n → ¬ (P i ∧ Q i)) : cnt (fun i => P i ∨ Q i) n = cnt P n + cnt Q n := by
  induction n with
  | zero => rfl
  | succ n ih =>
    have := ih (fun i hi => h i (by omega))
    have hn := h n (by omega)
    by_cases p : P n
    · rw [cnt_s (P := fun i => P i ∨ Q i) (Or.inl p), cnt_s p, cnt_n (fun z => hn ⟨p, z⟩)]; omega
    · by_cases q : Q n
      · rw [cnt_s (P := fun i => P i ∨ Q i) (Or.inr q), cnt_s q, cnt_n p]; omega
      · rw [cnt_n (P := fun i => P i ∨ Q i) (fun z => z.elim p q), cnt_n p, cnt_n q]; exact this
/-- points beyond count nothing -/
theorem cnt_ext {P : Nat → Prop} {n k : Nat} (hk : n ≤ k) (h : ∀ i, n ≤ i → i < k → ¬ P i) : cnt P k = cnt P n := by
  induction k with
  | zero => have : n = 0 := by omega
            rw [this]
  | succ k ih =>
    by_cases e : n = k + 1
    · rw [e]
    · rw [cnt_n (h k (by omega) (by omega)), ih (by omega) (fun i h1 h2 => h i h1 (by omega))]
/-! ===== boards: neighbours, what hangs together ===== -/
def Adj (m p q : Nat) : Prop := p < m * m ∧ q < m * m ∧ (q = p + m ∨ p = q + m ∨ (q = p + 1 ∧ q % m ≠ 0) ∨ (p = q + 1 ∧ p % m ≠ 0))
theorem Adj.symm {m p q : Nat} (h : Adj m p q) : Adj m q p := ⟨h.2.1, h.1, by have := h.2.2; omega⟩
def Clo (m : Nat) (S T : Nat → Prop) : Prop := ∀ a b, T a → Adj m a b → S b → T b
/-- q is come to from p over points of S -/
def Rch (m : Nat) (S : Nat → Prop) (p q : Nat) : Prop := ∀ T : Nat → Prop, T p → Clo m S T → T q
theorem Rch.rf {m : Nat} {S : Nat → Prop} {p : Nat} : Rch m S p p := fun _ h _ => h
theorem Rch.step {m : Nat} {S : Nat → Prop} {p a b : Nat} (h : Rch m S p a) (ha : Adj m a b) (hb : S b) : Rch m S p b := fun T h1 h2 => h2 a b (h T h1 h2) ha hb
theorem Rch.tr {m : Nat} {S : Nat → Prop} {p q r : Nat} (h1 : Rch m S p q) (h2 : Rch m S q r) : Rch m S p r := h2 (fun x => Rch m S p x) h1 (fun _ _ ha hab hb => ha.step hab hb)
theorem Rch.inS {m : Nat} {S : Nat → Prop} {p q : Nat} (h : Rch m S p q) (hp : S p) : S q := h S hp (fun _ _ _ _ hb => hb)
theorem Rch.symm {m : Nat} {S : Nat → Prop} {p q : Nat} (h : Rch m S p q) (hp : S p) : Rch m S q p := by
  have := h (fun x => S x ∧ Rch m S x p) ⟨hp, Rch.rf⟩ (fun a b ha hab hb => ⟨hb, (Rch.rf.step hab.symm ha.1).tr ha.2⟩)
  exact this.2
theorem Rch.lt {m : Nat} {S : Nat → Prop} {p q : Nat} (h : Rch m S p q) (hp : p < m * m) : q < m * m := h (fun x => x < m * m) hp (fun _ _ _ hab _ => hab.2.1)
theorem Rch.congr {m : Nat} {S S' : Nat → Prop} {p q : Nat} (hs : ∀ x, x < m * m → (S x → S' x)) (h : Rch m S p q) : Rch m S' p q := h (fun x => Rch m S' p x) Rch.rf (fun _ b ha hab hb => ha.step hab (hs b hab.2.1 hb))
/-- neighbours of a point by direction, as the class lays them -/
def nbC (m p dd : Nat) : Int := match dd with
  | 0 => if m ≤ p then (p : Int) - m else -1
  | 1 => if p % m ≠ 0 then (p : Int) - 1 else -1
  | 2 => if (p + 1) % m ≠ 0 then (p : Int) + 1 else -1
  | _ => if p + m < m * m then (p : Int) + m else -1
theorem mod_succ {m p : Nat} (hm : 2 ≤ m) (h : p % m ≠ 0) : (p - 1) % m = p % m - 1 := by
  have h1 := Nat.div_add_mod p m
  have h2 := Nat.mod_lt p (show 0 < m by omega)
  rw [show p - 1 = (p % m - 1) + m * (p / m) by omega, Nat.add_mul_mod_self_left, Nat.mod_eq_of_lt (by omega)]
theorem nbC_adj {m p : Nat} (hm : 2 ≤ m) (hp : p < m * m) {q : Nat} : Adj m p q ↔ ∃ dd, dd < 4 ∧ nbC m p dd = (q : Int) := by
  constructor
  · rintro ⟨-, hq, h⟩
    rcases h with h | h | ⟨h, h2⟩ | ⟨h, h2⟩
    · exact ⟨3, by omega, by simp only [nbC]; rw [if_pos (by omega)]; omega⟩
    · exact ⟨0, by omega, by simp only [nbC]; rw [if_pos (by omega)]; omega⟩
    · exact ⟨2, by omega, by simp only [nbC]; rw [if_pos (by rw [← h]; exact h2)]; omega⟩
    · exact ⟨1, by omega, by simp only [nbC]; rw [if_pos h2]; omega⟩
  · rintro ⟨dd, hd, h⟩
    match dd, hd, h with
    | 0, _, h =>
      simp only [nbC] at h
      split at h
      · exact ⟨hp, by omega, by omega⟩
      · omega
    | 1, _, h =>
      simp only [nbC] at h
      split at h
      next c => exact ⟨hp, by omega, Or.inr (Or.inr (Or.inr ⟨by omega, c⟩))⟩
      next => omega
    | 2, _, h =>
      simp only [nbC] at h
      split at h
      next c =>
        have e : q = p + 1 := by omega
        have hq : q < m * m := by
          by_cases z : p + 1 = m * m
          · rw [z, Nat.mul_mod_right] at c; exact absurd rfl c
          · omega
        exact ⟨hp, hq, Or.inr (Or.inr (Or.inl ⟨e, by rw [e]; exact c⟩))⟩
      next => omega
    | 3, _, h =>
      simp only [nbC] at h
      split at h
      · exact ⟨hp, by omega, by omega⟩
      · omega
theorem nbC_in {m p dd : Nat} (hm : 2 ≤ m) (hp : p < m * m) (hd : dd < 4) : nbC m p dd = -1 ∨ ∃ q : Nat, q < m * m ∧ nbC m p dd = (q : Int) := by
  by_cases h : nbC m p dd = -1
  · exact Or.inl h
  · right
    have h0 : 0 ≤ nbC m p dd := by
      match dd, hd with
      | 0, _ => simp only [nbC] at h ⊢; split <;> (split at h <;> omega)
      | 1, _ => simp only [nbC] at h ⊢; split <;> (split at h <;> first | omega | (rename_i c _; have : p ≠ 0 := fun z => c (by rw [z]; exact Nat.zero_mod m); omega))
      | 2, _ => simp only [nbC] at h ⊢; split <;> (split at h <;> omega)
      | 3, _ => simp only [nbC] at h ⊢; split <;> (split at h <;> omega)
    refine ⟨(nbC m p dd).toNat, ?_, by omega⟩
    have := (nbC_adj hm hp (q := (nbC m p dd).toNat)).mpr ⟨dd, hd, by omega⟩
    exact this.2.1
