theorem mnF_k {B : Nat → Int} {L : Nat} {ko : Int} : ∀ (w i st : Nat) (stk : List Int) (bh : Int) (k : Nat) (T : ATr) (m : Nat) (c : Int) (r : Nat × ATr × Nat × Int), i ≤ L → PI st stk bh k T m c i → mnF B L ko w i st stk bh k T m c = .inr r → TW r.2.2.1 r.1 r.2.1 := by
  intro w
  induction w with
  | zero => intro i st stk bh k T m c r _ _ he; cases he
  | succ w ih =>
    intro i st stk bh k T m c r hi hP he
    have hs := skp_ge (B := B) (L := L) i
    have hs2 := hs.2 hi
    have hPq : PI st stk bh k T m c (skp B L i) := by
      obtain ⟨a1, a2, a3, a4, a5⟩ := hP
      exact ⟨a1, a2, a3, Nat.le_trans a4 hs.1, a5⟩
    by_cases h59 : skp B L i < L ∧ B (skp B L i) = 59 ∧ (st = 1 ∨ st = 2)
    · rw [mnF_node h59] at he
      by_cases hk : k = 250
      · rw [if_pos hk] at he; cases he
      · rw [if_neg hk] at he
        have hk2 := hP.2.2.1.2.2.1
        cases hv : ndR B L ko (skp B L i) bh k T m c with
        | inl f => rw [hv] at he; cases he
        | inr s =>
          rw [hv] at he
          obtain ⟨P2, p3, p4⟩ := ndR_inv hPq (Nat.le_refl _) h59.2.2 (by omega) h59.1 hv
          exact ih s.1 2 stk (k : Int) (k + 1) s.2.2 (nSz s.2.1) (nKm s.2.1) r p4 P2 he
    · obtain ⟨m1, m2, m3, m4⟩ := mnF_rest (B := B) (L := L) (ko := ko) (w := w) (i := i) (st := st) (stk := stk) (bh := bh) (k := k) (T := T) (m := m) (c := c) h59
      by_cases h40 : skp B L i < L ∧ B (skp B L i) = 40 ∧ ¬ st = 1 ∧ ¬ st = 4
      · rw [m1 h40] at he
        exact ih _ 1 _ bh k T m c r h40.1 (hPq.opn h40.2.2.1 h40.2.2.2 (Nat.le_succ _)) he
      · by_cases h41 : skp B L i < L ∧ B (skp B L i) = 41 ∧ (st = 2 ∨ st = 3)
        · have hne := (hPq.2.2.2.2.2.2.2.2.1 h41.2.2).1
          rcases hstk : stk with _ | ⟨y, ys⟩
          · exact absurd hstk hne
          rw [m2 y ys h41 hstk] at he
          rw [hstk] at hPq
          exact ih _ _ ys y k T m c r h41.1 (hPq.close h41.2.2 (Nat.le_succ _)) he
        · by_cases hend : L ≤ skp B L i ∧ st = 4
          · rw [m3 hend] at he
            have e := Sum.inr.inj he
            subst e
            exact hP.2.2.1
          · rw [m4 h40 h41 hend] at he; cases he
