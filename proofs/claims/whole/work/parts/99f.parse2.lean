theorem i32_z (x : Int32) : x.toInt = 0 ↔ x = 0 := ⟨fun h => Int32.toInt_inj.mp (by rw [h]; rfl), fun h => by rw [h]; rfl⟩
theorem i32_b (x : Int32) : x = 0 ↔ ∀ i, x.toBitVec.getLsbD i = false := by
  constructor
  · intro h i; rw [h]; simp
  · intro h
    refine Int32.toBitVec_inj.mp (BitVec.eq_of_getLsbD_eq (fun i _ => ?_))
    rw [h]; simp
theorem or_and {t nm c : Int} : andI (orI t nm) c = 0 ↔ (andI t c = 0 ∧ andI nm c = 0) := by
  unfold andI orI
  rw [Int32.ofInt_toInt, i32_z, i32_z, i32_z, i32_b, i32_b, i32_b]
  simp only [Int32.toBitVec_or, Int32.toBitVec_and, BitVec.getLsbD_or, BitVec.getLsbD_and]
  constructor
  · intro h
    refine ⟨fun i => ?_, fun i => ?_⟩
    · have := h i
      revert this
      cases (Int32.ofInt t).toBitVec.getLsbD i <;> cases (Int32.ofInt nm).toBitVec.getLsbD i <;> cases (Int32.ofInt c).toBitVec.getLsbD i <;> simp
    · have := h i
      revert this
      cases (Int32.ofInt t).toBitVec.getLsbD i <;> cases (Int32.ofInt nm).toBitVec.getLsbD i <;> cases (Int32.ofInt c).toBitVec.getLsbD i <;> simp
  · rintro ⟨h1, h2⟩ i
    have a := h1 i
    have b := h2 i
    revert a b
    cases (Int32.ofInt t).toBitVec.getLsbD i <;> cases (Int32.ofInt nm).toBitVec.getLsbD i <;> cases (Int32.ofInt c).toBitVec.getLsbD i <;> simp
theorem or_tab : ∀ t : Nat, t < 128 → (0 ≤ orI (t : Int) 0 ∧ orI (t : Int) 0 < 128) ∧ (0 ≤ orI (t : Int) 1 ∧ orI (t : Int) 1 < 128) ∧ (0 ≤ orI (t : Int) 2 ∧ orI (t : Int) 2 < 128) ∧ (0 ≤ orI (t : Int) 4 ∧ orI (t : Int) 4 < 128) ∧ (0 ≤ orI (t : Int) 8 ∧ orI (t : Int) 8 < 128) ∧ (0 ≤ orI (t : Int) 16 ∧ orI (t : Int) 16 < 128) ∧ (0 ≤ orI (t : Int) 32 ∧ orI (t : Int) 32 < 128) ∧ (0 ≤ orI (t : Int) 64 ∧ orI (t : Int) 64 < 128) := by decide +kernel
theorem tn_tab : ∀ t : Nat, t < 128 → (andI (t : Int) 48 = 16 ↔ (¬ andI (t : Int) 16 = 0 ∧ andI (t : Int) 32 = 0)) := by decide +kernel
theorem or_r {t nm : Int} (ht : 0 ≤ t ∧ t < 128) (hn : isNm nm) : 0 ≤ orI t nm ∧ orI t nm < 128 := by
  obtain ⟨k, rfl⟩ : ∃ k : Nat, t = (k : Int) := ⟨t.toNat, by omega⟩
  obtain ⟨h0, h1, h2, h3, h4, h5, h6, h7⟩ := or_tab k (by omega)
  rcases hn with rfl | rfl | rfl | rfl | rfl | rfl | rfl | rfl
  · exact h0
  · exact h1
  · exact h2
  · exact h3
  · exact h4
  · exact h5
  · exact h6
  · exact h7
/-- what holds of a node's told things -/
def NDI (k m : Nat) (c : Int) (x : ND) : Prop :=
  (3 ≤ nSz x ∧ nSz x ≤ 9) ∧ (-200 ≤ nKm x ∧ nKm x ≤ 200) ∧ (0 < k → nSz x = m ∧ nKm x = c) ∧ (∀ p, 0 ≤ nSet x p ∧ nSet x p ≤ 3) ∧ (∀ p, nSz x * nSz x ≤ p → nSet x p = 3) ∧ (0 ≤ nTold x ∧ nTold x < 128) ∧
  ((nMvr x = 0 ∧ nPnt x = -1) ∨ ((nMvr x = 1 ∨ nMvr x = 2) ∧ (nPnt x = -1 ∨ (0 ≤ nPnt x ∧ nPnt x < ((nSz x * nSz x : Nat) : Int))) ∧ ¬ andI (nTold x) 12 = 0 ∧ ∀ p, nSet x p = 3)) ∧
  (andI (nTold x) 124 = 0 → nMvr x = 0 ∧ ∀ p, nSet x p = 3)
def TLs (t : Int) (x : ND) : Prop := (¬ andI t 16 = 0 ↔ ∃ p, p < 81 ∧ nSet x p = 1) ∧ (¬ andI t 32 = 0 ↔ ∃ p, p < 81 ∧ nSet x p = 2)
noncomputable def CtS (x : ND) : Nat := cnt (fun p => nSet x p ≠ 3) 81
theorem and_124_12 {t : Int} (h : andI t 124 = 0) : andI t 12 = 0 := by
  unfold andI at *
  rw [i32_z, i32_b] at *
  intro i
  have := h i
  rw [Int32.toBitVec_and, BitVec.getLsbD_and] at *
  revert this
  cases (Int32.ofInt t).toBitVec.getLsbD i with
  | false => simp
  | true =>
    simp only [Bool.true_and]
    intro h2
    by_cases hi : i < 8
    · rcases (show i = 0 ∨ i = 1 ∨ i = 2 ∨ i = 3 ∨ i = 4 ∨ i = 5 ∨ i = 6 ∨ i = 7 by omega) with e | e | e | e | e | e | e | e <;> subst e <;> revert h2 <;> decide
    · have e : (Int32.ofInt 12).toBitVec = BitVec.ofNat 32 12 := rfl
      rw [e, BitVec.getLsbD_ofNat]
      have : Nat.testBit 12 i = false := Nat.testBit_lt_two_pow (Nat.lt_of_lt_of_le (show 12 < 2 ^ 8 by decide) (Nat.pow_le_pow_right (by decide) (by omega)))
      rw [this]; simp
theorem NDI.told {k m : Nat} {c nm : Int} {x : ND} (h : NDI k m c x) (hn : isNm nm) : NDI k m c (toldN x (orI (nTold x) nm)) := by
  obtain ⟨a1, a2, a3, a4, a5, a6, a7, a8⟩ := h
  refine ⟨a1, a2, a3, a4, a5, or_r a6 hn, ?_, fun q => a8 (or_and.mp q).1⟩
  rcases a7 with u | ⟨u1, u2, u3, u4⟩
  · exact Or.inl u
  · exact Or.inr ⟨u1, u2, fun q => u3 (or_and.mp q).1, u4⟩
/-- what a name that may stand has behind it -/
def NmO (k : Nat) (nm t : Int) : Prop := isNm nm ∧ (16 ≤ nm → andI t 12 = 0) ∧ (nm = 1 ∨ nm = 4 ∨ nm = 8 → andI t 124 = 0) ∧ (nm = 1 ∨ nm = 2 → k = 0)
theorem msF_ok {k : Nat} {nm t : Int} (hn : isNm nm) (h : ¬ msF nm t (decide (k = 0)) = true) : NmO k nm t := by
  unfold msF at h
  refine ⟨hn, fun q => ?_, fun q => ?_, fun q => ?_⟩
  · rw [if_neg (by omega)] at h
    split at h
    · simp at h
    · split at h
      · simp at h
      · have hq : ¬ (nm = 1 ∨ nm = 4 ∨ nm = 8) := by omega
        first
          | (rw [if_neg hq, if_pos q] at h; simpa using h)
          | (rw [if_neg hq] at h; simpa using h)
          | simpa [hq, q] using h
  · rw [if_neg (by omega)] at h
    split at h
    · simp at h
    · split at h
      · simp at h
      · first
          | (rw [if_pos q] at h; simpa using h)
          | simpa using h
  · rw [if_neg (by omega)] at h
    split at h
    · simp at h
    · split at h
      · simp at h
      · rename_i h2
        by_cases hk : k = 0
        · exact hk
        · exact absurd ⟨q, by simp [hk]⟩ h2
theorem setN_eq (f : Nat → Int) (p : Nat) (v : Int) : setN f p v p = v := by unfold setN; rw [if_pos rfl]
theorem setN_ne {f : Nat → Int} {p q : Nat} {v : Int} (h : q ≠ p) : setN f p v q = f q := by unfold setN; rw [if_neg h]
/-- one value -/
theorem vlF_inv {B : Nat → Int} {k m od i j : Nat} {c nm t0 : Int} {x y : ND} (hN : NmO k nm t0) (h : NDI k m c x) (ht : nTold x = orI t0 nm) (h0 : od = 0 → andI t0 124 = 0 → nMvr x = 0 ∧ ∀ p, nSet x p = 3) (hT : TLs (if od = 0 then t0 else nTold x) x) (he : vlF B nm od i j x = some y) :
    NDI k m c y ∧ nTold y = nTold x ∧ TLs (nTold y) y ∧ (CtS y ≤ CtS x ∨ (CtS y = CtS x + 1 ∧ j = i + 2)) := by
  obtain ⟨a1, a2, a3, a4, a5, a6, a7, a8⟩ := h
  obtain ⟨n1, n2, n3, n4⟩ := hN
  -- bits that a name does not touch
  have keep : ∀ y : ND, nTold y = nTold x → nSet y = nSet x → nm < 16 → TLs (nTold y) y := by
    intro y e1 e2 hnm
    rw [e1]
    have b16 : andI nm 16 = 0 ∧ andI nm 32 = 0 := by
      rcases n1 with rfl | rfl | rfl | rfl | rfl | rfl | rfl | rfl
      · decide
      · decide
      · decide
      · decide
      · decide
      · omega
      · omega
      · omega
    have q16 : (andI (nTold x) 16 = 0 ↔ andI t0 16 = 0) ∧ (andI (nTold x) 32 = 0 ↔ andI t0 32 = 0) := by
      rw [ht, or_and, or_and]
      exact ⟨⟨fun z => z.1, fun z => ⟨z, b16.1⟩⟩, ⟨fun z => z.1, fun z => ⟨z, b16.2⟩⟩⟩
    unfold TLs at *
    rw [e2, q16.1, q16.2]
    by_cases z : od = 0
    · rw [if_pos z] at hT; exact hT
    · rw [if_neg z, q16.1, q16.2] at hT; exact hT
  unfold vlF at he
  by_cases z0 : nm = 0
  · rw [if_pos z0] at he
    cases he
    exact ⟨⟨a1, a2, a3, a4, a5, a6, a7, a8⟩, rfl, keep x rfl rfl (by omega), Or.inl (Nat.le_refl _)⟩
  rw [if_neg z0] at he
  by_cases z16 : 16 ≤ nm
  · rw [if_pos z16] at he
    split at he
    · cases he
    rename_i hp
    have hp0 : ¬ ptF B (nSz x) i j < 0 := fun z => hp (Or.inl z)
    have hp3 : nSet x (ptF B (nSz x) i j).toNat = 3 := Classical.byContradiction (fun z => hp (Or.inr z))
    have hj : j = i + 2 := by
      unfold ptF at hp0
      split at hp0
      · rename_i u; exact u.1
      · omega
    rcases ptF_r (B := B) (m := nSz x) (i := i) (j := j) with u | ⟨p, u1, u2⟩
    · omega
    have hN9 := sq_le a1.2
    rw [u1, show ((p : Int)).toNat = p by omega] at he hp3
    have m0 : nMvr x = 0 ∧ nPnt x = -1 := by
      rcases a7 with u | ⟨_, _, u3, _⟩
      · exact u
      · refine absurd ?_ u3
        rw [ht, or_and]
        refine ⟨n2 z16, ?_⟩
        rcases n1 with rfl | rfl | rfl | rfl | rfl | rfl | rfl | rfl
        · omega
        · omega
        · omega
        · omega
        · omega
        · decide
        · decide
        · decide
    have t124 : ¬ andI (nTold x) 124 = 0 := by
      rw [ht, or_and]
      intro u
      have := u.2
      rcases n1 with rfl | rfl | rfl | rfl | rfl | rfl | rfl | rfl
      · omega
      · omega
      · omega
      · omega
      · omega
      · revert this; decide
      · revert this; decide
      · revert this; decide
    generalize hv : (if nm = 16 then (1 : Int) else if nm = 32 then 2 else 0) = v at he
    have vr : 0 ≤ v ∧ v ≤ 2 := by
      rw [← hv]
      split
      · omega
      · split <;> omega
    cases he
    have e1 : CtS (nTold x, nMvr x, nPnt x, setN (nSet x) p v, nSz x, nKm x) = CtS x + 1 := by
      refine cnt_add (b := p) (by omega) (fun z => z hp3) (by show setN (nSet x) p v p ≠ 3; rw [setN_eq]; omega) (fun q _ hq => ?_)
      show setN (nSet x) p v q ≠ 3 ↔ _
      rw [setN_ne hq]
    refine ⟨⟨a1, a2, a3, fun q => ?_, fun q hq => ?_, a6, Or.inl m0, fun q => absurd q t124⟩, rfl, ?_, Or.inr ⟨e1, hj⟩⟩
    · show 0 ≤ setN (nSet x) p v q ∧ setN (nSet x) p v q ≤ 3
      by_cases e : q = p
      · rw [e, setN_eq]; omega
      · rw [setN_ne e]; exact a4 q
    · show setN (nSet x) p v q = 3
      have hq' : nSz x * nSz x ≤ q := hq
      rw [setN_ne (by omega)]; exact a5 q hq
    · -- told and sets
      have ex : ∀ w : Int, w ≠ 3 → ((∃ q, q < 81 ∧ setN (nSet x) p v q = w) ↔ (v = w ∨ ∃ q, q < 81 ∧ nSet x q = w)) := by
        intro w hw
        constructor
        · rintro ⟨q, q1, q2⟩
          by_cases e : q = p
          · rw [e, setN_eq] at q2; exact Or.inl q2
          · rw [setN_ne e] at q2; exact Or.inr ⟨q, q1, q2⟩
        · rintro (e | ⟨q, q1, q2⟩)
          · exact ⟨p, by omega, by rw [setN_eq]; exact e⟩
          · refine ⟨q, q1, ?_⟩
            rw [setN_ne (fun e => by rw [e, hp3] at q2; exact hw q2.symm)]; exact q2
      show (¬ andI (nTold x) 16 = 0 ↔ ∃ q, q < 81 ∧ setN (nSet x) p v q = 1) ∧ (¬ andI (nTold x) 32 = 0 ↔ ∃ q, q < 81 ∧ setN (nSet x) p v q = 2)
      rw [ex 1 (by omega), ex 2 (by omega)]
      have o16 := @or_and t0 nm 16
      have o32 := @or_and t0 nm 32
      rw [← ht] at o16 o32
      have hT' : (¬ andI (nTold x) 16 = 0 ↔ (v = 1 ∨ ∃ q, q < 81 ∧ nSet x q = 1)) ∧ (¬ andI (nTold x) 32 = 0 ↔ (v = 2 ∨ ∃ q, q < 81 ∧ nSet x q = 2)) := by
        have b : (andI nm 16 = 0 ↔ v ≠ 1) ∧ (andI nm 32 = 0 ↔ v ≠ 2) := by
          rw [← hv]
          rcases n1 with rfl | rfl | rfl | rfl | rfl | rfl | rfl | rfl
          · omega
          · omega
          · omega
          · omega
          · omega
          · decide
          · decide
          · decide
        unfold TLs at hT
        by_cases z : od = 0
        · rw [if_pos z] at hT
          rw [o16, o32, b.1, b.2, ← hT.1, ← hT.2]
          constructor
          · constructor
            · intro u
              by_cases w : v = 1
              · exact Or.inl w
              · exact Or.inr (fun w2 => u ⟨w2, w⟩)
            · rintro (u | u) ⟨w1, w2⟩
              · exact w2 u
              · exact u w1
          · constructor
            · intro u
              by_cases w : v = 2
              · exact Or.inl w
              · exact Or.inr (fun w2 => u ⟨w2, w⟩)
            · rintro (u | u) ⟨w1, w2⟩
              · exact w2 u
              · exact u w1
        · rw [if_neg z] at hT
          refine ⟨⟨fun u => Or.inr (hT.1.mp u), ?_⟩, ⟨fun u => Or.inr (hT.2.mp u), ?_⟩⟩
          · rintro (u | u)
            · rw [o16]; exact fun w => b.1.mp w.2 u
            · exact hT.1.mpr u
          · rintro (u | u)
            · rw [o32]; exact fun w => b.2.mp w.2 u
            · exact hT.2.mpr u
      exact hT'
  rw [if_neg z16] at he
  have zo : od = 0 := Classical.byContradiction (fun z => by rw [if_pos z] at he; cases he)
  rw [if_neg (fun z => z zo)] at he
  by_cases z4 : nm = 4 ∨ nm = 8
  · rw [if_pos z4] at he
    split at he
    · cases he
    rename_i hp
    obtain ⟨m0, s3⟩ := h0 zo (n3 (by omega))
    cases he
    refine ⟨⟨a1, a2, a3, a4, a5, a6, Or.inr ⟨?_, ?_, ?_, s3⟩, fun q => ?_⟩, rfl, keep _ rfl rfl (by omega), Or.inl (Nat.le_refl _)⟩
    · show (if nm = 4 then (1 : Int) else 2) = 1 ∨ (if nm = 4 then (1 : Int) else 2) = 2
      split <;> omega
    · show ptF B (nSz x) i j = -1 ∨ (0 ≤ ptF B (nSz x) i j ∧ ptF B (nSz x) i j < ((nSz x * nSz x : Nat) : Int))
      rcases ptF_r (B := B) (m := nSz x) (i := i) (j := j) with u | ⟨p, u1, u2⟩
      · exact Or.inl u
      · rw [u1]; exact Or.inr ⟨by omega, by omega⟩
    · show ¬ andI (nTold x) 12 = 0
      rw [ht, or_and]
      intro u
      have := u.2
      rcases z4 with rfl | rfl
      · revert this; decide
      · revert this; decide
    · have q' : andI (nTold x) 124 = 0 := q
      rw [ht, or_and] at q'
      have := q'.2
      refine absurd this ?_
      rcases z4 with rfl | rfl
      · decide
      · decide
  rw [if_neg z4] at he
  by_cases z1 : nm = 1
  · rw [if_pos z1] at he
    split at he
    · cases he
    rename_i hp
    obtain ⟨m0, s3⟩ := h0 zo (n3 (by omega))
    cases he
    have mp : nPnt x = -1 := by
      rcases a7 with u | u
      · exact u.2
      · omega
    refine ⟨⟨⟨?_, ?_⟩, a2, fun q => ?_, a4, fun q _ => s3 q, a6, Or.inl ⟨m0, mp⟩, fun _ => ⟨m0, s3⟩⟩, rfl, keep _ rfl rfl (by omega), Or.inl (Nat.le_refl _)⟩
    · show 3 ≤ (nuF B i j).toNat
      omega
    · show (nuF B i j).toNat ≤ 9
      omega
    · have := n4 (Or.inl z1); omega
  rw [if_neg z1] at he
  have z2 : nm = 2 := by unfold isNm at n1; omega
  have k0 := n4 (Or.inr z2)
  split at he
  · split at he
    · cases he
    · rename_i hp
      cases he
      refine ⟨⟨a1, ?_, fun q => by omega, a4, a5, a6, a7, a8⟩, rfl, keep _ rfl rfl (by omega), Or.inl (Nat.le_refl _)⟩
      show -200 ≤ -(nuF B (i + 1) j) ∧ -(nuF B (i + 1) j) ≤ 200
      omega
  · split at he
    · cases he
    · rename_i hp
      cases he
      refine ⟨⟨a1, ?_, fun q => by omega, a4, a5, a6, a7, a8⟩, rfl, keep _ rfl rfl (by omega), Or.inl (Nat.le_refl _)⟩
      show -200 ≤ nuF B i j ∧ nuF B i j ≤ 200
      omega
