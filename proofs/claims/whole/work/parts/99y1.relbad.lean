theorem rbN1 {t a j : Nat} (ht : t = 1 ∨ t = 15) (y : rdX (16 - t) a ∨ (a = 29 ∧ j = 1)) : (16 - t ≤ a ∧ a ≤ 29 - t) ∨ (41 ≤ a ∧ a ≤ 51) ∨ (a = 29 ∧ j = 1) := by
  unfold rdX brdW at y
  omega
theorem rbN2 {g a j : Nat} (y : tmW (1 - g) a j ∨ (a = 73 ∧ (j = 20 ∨ j = 23 ∨ j = 28))) : (74 ≤ a ∧ a ≤ 87) ∨ a = 89 ∨ (a = 73 ∧ 13 ≤ j ∧ j ≤ 29) := by
  rcases y with (y | y | y | y) | y
  · unfold mtrD at y; omega
  · omega
  · omega
  · omega
  · omega
theorem rbN3 {g a j : Nat} (hg : g < 2) (z : mtrD g a j) (y : tmW (1 - g) a j ∨ (a = 73 ∧ (j = 20 ∨ j = 23 ∨ j = 28))) : False := by
  unfold mtrD at z
  rcases y with (y | y | y | y) | y
  · unfold mtrD at y; omega
  · omega
  · omega
  · omega
  · omega
section ZX
variable {σ : ZSto} {G : Int}
/-- a text that was bad -/
theorem Rel.bad {σ1 σ2 : ZSto} {t g : Nat} {z : Nat} {m k pl : Nat} {c : Int} {T : ATr} (hO : OthR σ) (hS : StepR σ) (hD : DdR σ) (hGm : GmR σ t g m k pl c T) (hB : BOk σ 33 m (tBrd T pl)) (g1 : gI σ 33 10 ≤ G) (f1 : Fr (fun a j => rdX (16 - t) a ∨ (a = 29 ∧ j = 1)) σ σ1) (b1 : BPre σ1 41) (g2 : gI σ1 41 10 ≤ G) (e29 : gI σ1 29 1 = 0) (e49 : gI σ1 49 9 = (z : Int)) (f2 : Fr (fun a j => tmW (1 - g) a j ∨ (a = 73 ∧ (j = 20 ∨ j = 23 ∨ j = 28))) σ1 σ2) (e20 : gI σ2 73 20 = 0) (e23 : gI σ2 73 23 = (z : Int)) : Rel σ2 G := by
  have ht2 : t = 1 ∨ t = 15 := hGm.1
  have hg := hGm.2.1
  have F1 := f1.mono (fun a j y => rbN1 ht2 y)
  have F2 := f2.mono (fun a j y => rbN2 y)
  obtain ⟨o1, o2, o3, o4, o5⟩ := hO
  have q1 : ClkR σ2 := (o1.kept F1 (fun a j y => by unfold clkD at y; omega)).kept F2 (fun a j y => by unfold clkD at y; omega)
  have e : gI σ2 29 1 = 0 := by rw [F2.I (by omega)]; exact e29
  have q2 : TapeR σ2 := ⟨by omega, by omega, fun i hi => by omega⟩
  have q3 : OutR σ2 := (o3.kept F1 (fun a j y => by unfold outD at y; omega)).kept F2 (fun a j y => by unfold outD at y; omega)
  have q4 : gI σ2 73 23 = gI σ2 49 9 := by rw [e23, F2.I (by omega), e49]
  have q5 : KoR σ2 := (o5.kept F1 (fun a j y => by unfold koD at y; omega)).kept F2 (fun a j y => by unfold koD at y; omega)
  have q6 : StepR σ2 := (hS.kept F1 (fun a j y => by unfold stpD at y; omega)).kept F2 (fun a j y => by unfold stpD at y; omega)
  have q7 : DdR σ2 := (hD.kept F1 (fun a j y => by omega)).kept F2 (fun a j y => by omega)
  have q8 : GmR σ1 t g m k pl c T := hGm.kept F1 (fun a j y => by
    rcases y with y | y | y | y | y
    · unfold ctrD at y; omega
    · omega
    · unfold mtrD at y; omega
    · omega
    · omega)
  have q9 : GmR σ2 t g m k pl c T := q8.kept f2 (fun a j y w => by
    rcases y with y | y | y | y | y
    · have := rbN2 w
      unfold ctrD at y; omega
    · have := rbN2 w
      omega
    · exact rbN3 hg y w
    · have := rbN2 w
      omega
    · rcases w with (w | w | w | w) | w
      · unfold mtrD at w; omega
      · omega
      · omega
      · omega
      · omega)
  have q10 : BOk σ2 33 m (tBrd T pl) := (hB.kept F1 (fun a j y => by unfold brdW at y; omega)).kept F2 (fun a j y => by unfold brdW at y; omega)
  have q11 : BPre σ2 41 := b1.kept2 F2 (fun a j y => by unfold brdX at y; omega)
  exact ⟨⟨q1, q2, q3, q4, q5⟩, q6, q7, t, g, m, k, pl, c, T, q9, q10, q11, by rw [F2.I (by omega), F1.I (by omega)]; exact g1, by rw [F2.I (by omega)]; exact g2⟩
end ZX
