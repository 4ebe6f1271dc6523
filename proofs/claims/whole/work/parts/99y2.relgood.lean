theorem rgN1 {t a j : Nat} (ht : t = 1 ∨ t = 15) (y : rdX t a ∨ (a = 29 ∧ j = 1) ∨ (a = 0 ∧ (j = 0 ∨ j = 1)) ∨ a = 34 ∨ a = 35 ∨ (a = 33 ∧ (j = 7 ∨ j = 8)) ∨ a = 68) : (1 ≤ a ∧ a ≤ 28) ∨ (41 ≤ a ∧ a ≤ 51) ∨ (a = 29 ∧ j = 1) ∨ (a = 0 ∧ j ≤ 1) ∨ (33 ≤ a ∧ a ≤ 35) ∨ a = 68 := by
  unfold rdX brdW at y
  omega
theorem rgN2 {g a j : Nat} (y : tmW g a j ∨ a = 92 ∨ (a = 73 ∧ (j = 10 ∨ j = 11 ∨ j = 20 ∨ j = 23 ∨ j = 28))) : (74 ≤ a ∧ a ≤ 87) ∨ a = 89 ∨ a = 92 ∨ (a = 73 ∧ 10 ≤ j ∧ j ≤ 29 ∧ j ≠ 12) := by
  rcases y with (y | y | y | y) | y
  · unfold mtrD at y; omega
  · omega
  · omega
  · omega
  · omega
section ZX
variable {σ : ZSto} {G : Int}
/-- a text that was good -/
theorem Rel.good {σ1 σ2 : ZSto} {t g : Nat} {m k : Nat} {c : Int} {T : ATr} (hO : OthR σ) (hS : StepR σ) (ht : zIsT t) (hg : g < 2) (hW : TW m k T) (hTS : 4 * sumT T k ≤ 1500) (hk : 1 ≤ k) (hc : -200 ≤ c ∧ c ≤ 200) (f1 : Fr (fun a j => rdX t a ∨ (a = 29 ∧ j = 1) ∨ (a = 0 ∧ (j = 0 ∨ j = 1)) ∨ a = 34 ∨ a = 35 ∨ (a = 33 ∧ (j = 7 ∨ j = 8)) ∨ a = 68) σ σ1) (p0 : gP σ1 0 0 = some t) (p1 : gP σ1 0 1 = some (16 - t)) (hC : CTr σ1 t m k c T) (e16 : gI σ1 t 16 = 0) (hB : BOk σ1 33 m (tBrd T 0)) (b1 : BPre σ1 41) (g1 : gI σ1 33 10 ≤ G) (g2 : gI σ1 41 10 ≤ G) (z1 : ∀ p, p < 81 → gI σ1 68 p = 0) (e29 : gI σ1 29 1 = 0) (e49 : gI σ1 49 9 = -1)
    (f2 : Fr (fun a j => tmW g a j ∨ a = 92 ∨ (a = 73 ∧ (j = 10 ∨ j = 11 ∨ j = 20 ∨ j = 23 ∨ j = 28))) σ1 σ2) (e20 : gI σ2 73 20 = 0) (e23 : gI σ2 73 23 = -1) (e10 : gI σ2 73 10 = (g : Int)) (e11 : gI σ2 73 11 = ((250 * g : Nat) : Int)) (hM : MTr σ2 g m k c T) (z2 : ∀ p, p < 81 → gI σ2 92 p = 0) : Rel σ2 G := by
  have ht2 : t = 1 ∨ t = 15 := ht
  have F1 := f1.mono (fun a j y => rgN1 ht2 y)
  have F2 := f2.mono (fun a j y => rgN2 y)
  obtain ⟨o1, o2, o3, o4, o5⟩ := hO
  have q1 : ClkR σ2 := (o1.kept F1 (fun a j y => by unfold clkD at y; omega)).kept F2 (fun a j y => by unfold clkD at y; omega)
  have e : gI σ2 29 1 = 0 := by rw [F2.I (by omega)]; exact e29
  have q2 : TapeR σ2 := ⟨by omega, by omega, fun i hi => by omega⟩
  have q3 : OutR σ2 := (o3.kept F1 (fun a j y => by unfold outD at y; omega)).kept F2 (fun a j y => by unfold outD at y; omega)
  have q4 : gI σ2 73 23 = gI σ2 49 9 := by rw [e23, F2.I (by omega), e49]
  have q5 : KoR σ2 := (o5.kept F1 (fun a j y => by unfold koD at y; omega)).kept F2 (fun a j y => by unfold koD at y; omega)
  have q6 : StepR σ2 := (hS.kept F1 (fun a j y => by unfold stpD at y; omega)).kept F2 (fun a j y => by unfold stpD at y; omega)
  have q7 : DdR σ2 := by
    intro p hp
    rw [z2 p hp, F2.I (by omega), z1 p hp]
    exact ⟨Or.inl rfl, rfl⟩
  have r1 : gP σ2 0 0 = some t := by rw [F2.P (by omega)]; exact p0
  have r2 : gP σ2 0 1 = some (16 - t) := by rw [F2.P (by omega)]; exact p1
  have r3 : gI σ2 t 16 = 0 := by rw [F2.I (by omega)]; exact e16
  have r4 : CTr σ2 t m k c T := hC.kept F2 (fun a j y => by unfold ctrD at y; omega)
  have q10 : BOk σ2 33 m (tBrd T 0) := hB.kept F2 (fun a j y => by unfold brdW at y; omega)
  have q11 : BPre σ2 41 := b1.kept2 F2 (fun a j y => by unfold brdX at y; omega)
  exact ⟨⟨q1, q2, q3, q4, q5⟩, q6, q7, t, g, m, k, 0, c, T, ⟨ht, hg, r1, r2, e10, by rw [e11]; rfl, r3, hk, hW, hTS, hc, r4, hM⟩, q10, q11, by rw [F2.I (by omega)]; exact g1, by rw [F2.I (by omega)]; exact g2⟩
end ZX
