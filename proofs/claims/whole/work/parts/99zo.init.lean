/-! ===== the start: both objects are made ===== -/
def zS0 : ZSto := (fun _ _ => 0, fun _ _ => 0, fun _ _ => none)
theorem zS0_b (n : Nat) : Blk n zS0 := fun _ _ _ => ⟨rfl, rfl, rfl⟩
theorem zFit0 (ty : FieldType) : zFitI ty 0 := by
  unfold zFitI
  split
  · decide
  · exact Or.inl rfl
  · exact r32c rfl
theorem zS0_i : ZI zS0 := ⟨fun _ _ => r32c rfl, fun _ _ ty _ _ => zFit0 ty⟩
/-- the class's store, before its game begins -/
def zS1 : ZSto := U_9_0 zS0
theorem zS1_ref : ∀ o, o < 73 → ∀ j, j < 52 → zRef o j = none ∨ gP zS1 o j = zRef o j := by decide +kernel
theorem zS1_ok : ZOk 73 zS1 := by
  refine ⟨fun o j a ho h => ?_, (zi_9_0 zS0_i).1, (zi_9_0 zS0_i).2⟩
  by_cases hj : j < 52
  · rcases zS1_ref o ho j hj with q | q
    · rw [q] at h; cases h
    · rw [q]; exact h
  · rw [zRef_big (by omega)] at h; cases h
theorem zS1_b : Blk 73 zS1 := bb_9_0 (by omega) (zS0_b 73)
theorem zS1_pre {o : Nat} (h : o = 33 ∨ o = 41) : BPre zS1 o := by
  rcases h with rfl | rfl
  · refine ⟨fun m e h3 _ => ?_, by decide, fun q => ⟨?_, ?_⟩⟩
    · have : gI zS1 33 7 = 0 := rfl
      omega
    · show gI zS1 37 q ≤ gI zS1 33 10
      exact Int.le_refl 0
    · show gI zS1 38 q ≤ gI zS1 33 10
      exact Int.le_refl 0
  · refine ⟨fun m e h3 _ => ?_, by decide, fun q => ⟨?_, ?_⟩⟩
    · have : gI zS1 41 7 = 0 := rfl
      omega
    · show gI zS1 45 q ≤ gI zS1 41 10
      exact Int.le_refl 0
    · show gI zS1 46 q ≤ gI zS1 41 10
      exact Int.le_refl 0
def zT0 : ATr := (fun _ _ => 0, fun _ _ => 0, fun _ _ => 0)
/-- what the class's constructor leaves -/
def Ini1 (σ : ZSto) : Prop := Fr (fun a j => (1 ≤ a ∧ a ≤ 14) ∨ a = 34 ∨ a = 35 ∨ (a = 33 ∧ (j = 7 ∨ j = 8)) ∨ a = 68) zS1 σ ∧ CTr σ 1 9 1 0 (rootT zT0) ∧ gI σ 1 16 = 0 ∧ BOk σ 33 9 (fun _ => 0) ∧ ∀ p, p < 81 → gI σ 68 p = 0
section ZI0
variable {X : ZX} {d : Nat}
theorem ini1 : Zc X M_X9_init (d + 5) 1 73 [.ref (zB X + 0)] zS0 (fun r σ => r = none ∧ ZOk 73 σ ∧ Ini1 σ) := by
  refine ub_9_0 (d := d + 3) (zS0_b 1) zS1_ok ?_
  refine (sp_startGame (d := d) (t := 1) (m := 9) (c := 0) (Nat.le_refl 73) zT0 (Or.inl rfl) rfl (zS1_pre (Or.inl rfl)) (by decide) (by decide) (by decide)).mono ?_
  rintro σ ⟨f, h1, h2, h3, h4⟩
  exact ⟨f.mono (fun a i q => by omega), h1, h2, h3, h4⟩
theorem Ini1.blk {σ : ZSto} (h : Ini1 σ) : Blk 73 σ := fun a j q => by
  have b := zS1_b a j q
  obtain ⟨f1, f2, f3⟩ := h.1 a j (by omega)
  rw [f1, f2, f3]
  exact b
theorem ini_ok {σ : ZSto} (hk : ZOk 73 σ) : ZOk 104 (U_10_73 σ) := by
  have hz := zi_10_73 (σ := σ) ⟨hk.2.1, hk.2.2⟩
  refine ⟨fun o j a ho h => ?_, hz.1, hz.2⟩
  by_cases e : o = 73
  · subst e
    exact rf_10_73 j a h
  · by_cases e2 : o < 73
    · rw [fr_10_73.P (show ¬ o = 73 from e)]
      exact hk.1 o j a e2 h
    · exfalso
      have h1 : ∀ o, o < 104 → 74 ≤ o → (match SH o with | some (.inl _) => true | _ => false) = true := by decide +kernel
      have h2 := h1 o ho (by omega)
      unfold zRef at h
      split at h
      all_goals first | (rename_i q; rw [q] at h2; simp at h2) | cases h
theorem ini2 {σ : ZSto} (hk : ZOk 73 σ) (h : Ini1 σ) : Zc X M_X10_init (d + 4) 74 104 [.ref (zB X + 73)] σ (fun r σ2 => r = none ∧ ZOk 104 σ2 ∧ Rel σ2 0) := by
  have b73 := h.blk
  refine ub_10_73 (d := d + 3) (b73.mono (by omega)) (ini_ok hk) ?_
  refine (sm_empties (d := d + 2) (g := 0) (m := 9) (c := 0) (Nat.le_refl 104) zT0 (by decide) (by decide) (by decide)).mono ?_
  rintro σ1 ⟨f1, m1⟩
  refine (sm_opens (d := d) (g := 0) (Nat.le_refl 104) zT0 (by decide) m1).mono ?_
  rintro σ2 ⟨f2, m2⟩
  have F : Fr (fun a i => 74 ≤ a ∧ a ≤ 84) (U_10_73 σ) σ2 := (f1.mono (fun a i q => by omega)).tr (f2.mono (fun a i q => by unfold mtrD at q; omega))
  have F2 : Fr (fun a i => 73 ≤ a ∧ a ≤ 84) σ σ2 := (fr_10_73.mono (fun a i q => by omega)).tr (F.mono (fun a i q => by omega))
  have F3 : Fr (fun a j => (1 ≤ a ∧ a ≤ 14) ∨ a = 34 ∨ a = 35 ∨ (a = 33 ∧ (j = 7 ∨ j = 8)) ∨ a = 68 ∨ (73 ≤ a ∧ a ≤ 84)) zS1 σ2 := (h.1.mono (fun a i q => by omega)).tr (F2.mono (fun a i q => by omega))
  have e0 : ∀ a i, 85 ≤ a → gI σ2 a i = 0 := fun a i q => by rw [F2.I (by omega)]; exact (b73 a i (by omega)).1
  have e73 : ∀ i, gI (U_10_73 σ) 73 i = gI σ 73 i → gI σ2 73 i = 0 := fun i q => by rw [F.I (by omega), q]; exact (b73 73 i (by omega)).1
  have v73 : ∀ i (v : Int), gI (U_10_73 σ) 73 i = v → gI σ2 73 i = v := fun i v q => by rw [F.I (by omega), q]
  have e1 : ∀ a i, ¬ ((1 ≤ a ∧ a ≤ 14) ∨ a = 34 ∨ a = 35 ∨ (a = 33 ∧ (i = 7 ∨ i = 8)) ∨ a = 68 ∨ (73 ≤ a ∧ a ≤ 84)) → ∀ v : Int, gI zS1 a i = v → gI σ2 a i = v := fun a i q v e => by rw [F3.I q, e]
  have qC : ClkR σ2 := by
    have s51 : gI σ2 73 51 = 0 := e73 51 rfl
    refine ⟨fun c hc => ?_, by omega, by omega⟩
    have a0 : gI σ2 (70 + c) 0 = 0 := by rcases hc with rfl | rfl <;> exact e1 _ _ (by omega) 0 rfl
    have a1 : gI σ2 (70 + c) 1 = 0 := by rcases hc with rfl | rfl <;> exact e1 _ _ (by omega) 0 rfl
    have a2 : gI σ2 (70 + c) 2 = 0 := by rcases hc with rfl | rfl <;> exact e1 _ _ (by omega) 0 rfl
    have a3 : gI σ2 (70 + c) 3 = 0 := by rcases hc with rfl | rfl <;> exact e1 _ _ (by omega) 0 rfl
    rw [a0, a1, a2, a3, s51, e0 101 c (by omega), e0 102 c (by omega), e0 103 c (by omega)]
    exact ⟨⟨by omega, by omega⟩, ⟨by omega, by omega⟩, Or.inl rfl, rfl, rfl, rfl, rfl, fun q => by omega⟩
  have s29 : gI σ2 29 1 = 0 := e1 _ _ (by omega) 0 rfl
  have s31 : gI σ2 31 1 = 0 := e1 _ _ (by omega) 0 rfl
  have qT : TapeR σ2 := ⟨by omega, by rw [s29]; exact e73 20 rfl, fun i hi => by omega⟩
  have qO : OutR σ2 := ⟨by omega, by rw [s31]; exact e73 31 rfl, fun i hi => by omega⟩
  have qP : gI σ2 73 23 = gI σ2 49 9 := by rw [v73 23 (-1) rfl, e1 49 9 (by omega) (-1) rfl]
  have k13 : gI σ2 0 13 = 1 := e1 _ _ (by omega) 1 rfl
  have qK : KoR σ2 := ⟨by rw [k13]; exact v73 12 1 rfl, by omega, by omega⟩
  have qS : StepR σ2 := Or.inl ⟨e1 _ _ (by omega) (-1) rfl, e1 _ _ (by omega) (-1) rfl, v73 41 (-1) rfl⟩
  have qD : DdR σ2 := fun p hp => by
    have z : gI σ2 68 p = 0 := by rw [F2.I (by omega)]; exact h.2.2.2.2 p hp
    rw [z, e0 92 p (by omega)]
    exact ⟨Or.inl rfl, rfl⟩
  have eb : tBrd (rootT zT0) 0 = fun _ => 0 := addT_k.2.2.2.2.2.2.2.1
  have g33 : gI σ2 33 10 = 0 := e1 _ _ (by omega) 0 rfl
  have g41 : gI σ2 41 10 = 0 := e1 _ _ (by omega) 0 rfl
  refine ⟨⟨qC, qT, qO, qP, qK⟩, qS, qD, 1, 0, 9, 1, 0, 0, rootT zT0, ⟨Or.inl rfl, by decide, ?_, ?_, e73 10 rfl, e73 11 rfl, ?_, by decide, rootT_w (by decide) (by decide), rootT_s, by decide, h.2.1.kept F2 (fun a i q => by unfold ctrD at q; omega), m2⟩, ?_, ?_, by omega, by omega⟩
  · rw [F3.P (by omega)]; rfl
  · rw [F3.P (by omega)]; rfl
  · rw [F2.I (by omega)]; exact h.2.2.1
  · rw [eb]; exact h.2.2.2.1.kept F2 (fun a i q => by unfold brdW at q; omega)
  · exact (zS1_pre (Or.inr rfl)).kept2 F3 (fun a i q => by unfold brdX at q; omega)
end ZI0
