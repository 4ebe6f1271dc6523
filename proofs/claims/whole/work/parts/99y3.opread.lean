section ZX
variable {X : ZX} {d n : Nat} {σ : ZSto} {G : Int}
theorem op_read (hn : 104 ≤ n) (h : Rel σ G) (hG : G ≤ 1900000000 - 100000) : ZkI X M_X9_read (d + 8) n [.ref (zB X + 0)] σ (fun v σ1 => ZkI X M_X10_read (d + 9) n [.ref (zB X + 73)] σ1 (fun w σ2 => v = w ∧ Rel σ2 (G + 60000))) := by
  refine Zk.ok (fun hok => ?_)
  have hn' : 73 ≤ n := by omega
  obtain ⟨h1, h2, h3, t, g, m, k, pl, c, T, hGm, hB, hB2, g1, g2⟩ := h
  have hGm' := hGm
  obtain ⟨ht, hg, p0, p1, e10, e11, e16, hpk, hW, hTS, hc, hC, hM⟩ := hGm
  have ht2 : t = 1 ∨ t = 15 := ht
  have ht' : zIsT (16 - t) := by unfold zIsT; omega
  obtain ⟨oC, oT, oO, oP, oK⟩ := id h1
  obtain ⟨L, eL⟩ : ∃ L : Nat, gI σ 29 1 = (L : Int) := ⟨(gI σ 29 1).toNat, by have := oT.1; omega⟩
  have hL : L ≤ 1500 := by have := oT.1; omega
  have rb : ∀ i, -128 ≤ gI σ 30 i ∧ gI σ 30 i < 128 := fun i => hok.2.2 30 i .byte 1500 sh_30
  have hTC : TpC σ (fun i => andI (gI σ 30 i) 255) L := ⟨eL, hL, fun i hi => by
    have := rb i
    refine ⟨rfl, ?_⟩
    show 0 ≤ andI (gI σ 30 i) 255 ∧ andI (gI σ 30 i) 255 ≤ 255
    rw [and255 this.1 this.2]
    split <;> omega⟩
  have rko : R32 (gI σ 0 13) := ⟨by have := oK.2; omega, by have := oK.2; omega⟩
  refine w_X9_read hn' ⟨16 - t, p1, ht', ?_⟩
  refine (sp_readText hn' T ht' hTC rko hB2 (by omega)).mono ?_
  rintro v σ1 - ⟨f1, b1, gg1, tx⟩
  -- the reference's side
  have hTM : ∀ τ : ZSto, Fr (fun a j => rdX (16 - t) a ∨ (a = 29 ∧ j = 1) ∨ (a = 0 ∧ (j = 0 ∨ j = 1)) ∨ a = 34 ∨ a = 35 ∨ (a = 33 ∧ (j = 7 ∨ j = 8)) ∨ a = 68) σ τ → TpM τ (fun i => andI (gI σ 30 i) 255) L ∧ gI τ 73 10 = (g : Int) ∧ gI τ 73 12 = gI σ 0 13 := by
    intro τ f
    refine ⟨⟨by rw [f.I (by unfold rdX brdW; omega), oT.2.1]; exact eL, hL, fun i hi => ?_⟩, by rw [f.I (by unfold rdX brdW; omega)]; exact e10, by rw [f.I (by unfold rdX brdW; omega)]; exact oK.1⟩
    have e : gI τ 88 i = gI σ 30 i := by rw [f.I (by unfold rdX brdW; omega)]; exact oT.2.2 i (by omega)
    have := rb i
    rw [e]
    show andI (gI σ 30 i) 255 = andI (gI σ 30 i) 255 ∧ 0 ≤ andI (gI σ 30 i) 255 ∧ andI (gI σ 30 i) 255 ≤ 255 ∧ (andI (gI σ 30 i) 255 < 128 → gI σ 30 i = andI (gI σ 30 i) 255) ∧ (128 ≤ andI (gI σ 30 i) 255 → gI σ 30 i = andI (gI σ 30 i) 255 - 256)
    rw [and255 this.1 this.2]
    split
    · exact ⟨rfl, by omega, by omega, fun y => by omega, fun y => by omega⟩
    · exact ⟨rfl, by omega, by omega, fun y => by omega, fun y => by omega⟩
  have hk250 : ∀ r : Nat × ATr × Nat × Int, mnF (fun i => andI (gI σ 30 i) 255) L (gI σ 0 13) (L + 1) 0 0 [] (-1) 0 T 9 0 = .inr r → r.1 ≤ 250 := fun r hr => (mnF_k _ _ _ _ _ _ _ _ _ _ (by omega) PI_0 hr).2.2.1
  cases hr : mnF (fun i => andI (gI σ 30 i) 255) L (gI σ 0 13) (L + 1) 0 0 [] (-1) 0 T 9 0 with
  | inl f =>
    rw [hr] at tx
    obtain ⟨rfl, q1, q2⟩ := tx
    refine ⟨fun _ => ?_, fun y => absurd y q2⟩
    have fs : Fr (fun a j => a = 29 ∧ j = 1) σ1 (sI σ1 29 1 0) := Fr.rf.sI ⟨rfl, rfl⟩
    have F1 : Fr (fun a j => rdX (16 - t) a ∨ (a = 29 ∧ j = 1)) σ (sI σ1 29 1 0) := (f1.mono (fun a j y => Or.inl y)).tr (fs.mono (fun a j y => Or.inr y))
    obtain ⟨tm, t10, t12⟩ := hTM _ (F1.mono (fun a j y => y.elim Or.inl (fun u => Or.inr (Or.inl u))))
    refine sm_read (X := X) (d := d) hn T hg rfl tm t10 t12 _ _ hr.symm (fun f' σ2 hf' f2 z20 z23 => ?_) (fun r σ2 hr' => by cases hr') (fun r hr' => by cases hr')
    have e := Sum.inl.inj hf'
    subst e
    exact ⟨rfl, Rel.bad (G := G + 60000) h1 h2 h3 hGm' hB (by omega) F1 (b1.kept2 fs (fun a j y => by unfold brdX at y; omega)) (by rw [fs.I (by omega)]; omega) (gI_same _ _ _ _) (by rw [fs.I (by omega)]; exact q1) f2 z20 z23⟩
  | inr r =>
    rw [hr] at tx
    obtain ⟨rfl, q1, q2, q3, q4, q5, q6⟩ := tx
    refine ⟨fun y => absurd rfl y, fun _ => ⟨t, by rw [f1.P (by unfold rdX brdW; omega)]; exact p0, ht, 16 - t, by rw [f1.P (by unfold rdX brdW; omega)]; exact p1, ht', ?_⟩⟩
    rw [q2.1]
    have fs : Fr (fun a j => (a = 29 ∧ j = 1) ∨ (a = 0 ∧ (j = 0 ∨ j = 1))) σ1 (sP (sP (sI σ1 29 1 0) 0 0 (some (16 - t))) 0 1 (some t)) := ((Fr.rf.sI (by omega)).sP (by omega)).sP (by omega)
    have s29 : gI (sP (sP (sI σ1 29 1 0) 0 0 (some (16 - t))) 0 1 (some t)) 29 1 = 0 := by rw [gI_sP, gI_sP, gI_same]
    have s00 : gP (sP (sP (sI σ1 29 1 0) 0 0 (some (16 - t))) 0 1 (some t)) 0 0 = some (16 - t) := by rw [gP_f (by omega), gP_same]
    have s01 : gP (sP (sP (sI σ1 29 1 0) 0 0 (some (16 - t))) 0 1 (some t)) 0 1 = some t := gP_same _ _ _ _
    generalize sP (sP (sI σ1 29 1 0) 0 0 (some (16 - t))) 0 1 (some t) = σ2 at fs s29 s00 s01
    have B33 : BPre σ2 33 := ((hB.kept f1 (fun a j y => by unfold brdW at y; unfold rdX brdW; omega)).kept fs (fun a j y => by unfold brdW at y; omega)).pre
    have g33 : gI σ2 33 10 = gI σ 33 10 := by rw [fs.I (by omega), f1.I (by unfold rdX brdW; omega)]
    refine (sp_shape hn' (Or.inl rfl) q3.1 q3.2.1 B33).mono ?_
    rintro σ3 ⟨f3, b3, -⟩
    have C3 : CTr σ3 (16 - t) r.2.2.1 r.1 r.2.2.2 r.2.1 := (q2.kept fs (fun a j y => by unfold ctrD at y; omega)).kept f3 (fun a j y => by unfold ctrD at y; omega)
    refine (sp_moveTo hn' (i := 0) ht' (by rw [f3.P (by omega)]; exact s00) C3 q3 (by omega) b3).mono ?_
    rintro σ4 ⟨f4, e4, b4, z4⟩
    have F4 : Fr (fun a j => rdX (16 - t) a ∨ (a = 29 ∧ j = 1) ∨ (a = 0 ∧ (j = 0 ∨ j = 1)) ∨ a = 34 ∨ a = 35 ∨ (a = 33 ∧ (j = 7 ∨ j = 8)) ∨ a = 68) σ σ4 := (((f1.mono (fun a j y => Or.inl y)).tr (fs.mono (fun a j y => by omega))).tr (f3.mono (fun a j y => by omega))).tr (f4.mono (fun a j y => by unfold rdX; omega))
    obtain ⟨tm, t10, t12⟩ := hTM σ4 F4
    have C4 : CTr σ4 (16 - t) r.2.2.1 r.1 r.2.2.2 r.2.1 := C3.kept f4 (fun a j y => by unfold ctrD at y; omega)
    refine sm_read (X := X) (d := d) hn T hg rfl tm t10 t12 _ _ hr.symm (fun f' σ5 hf' => by cases hf') (fun r' σ5 hr' f5 z20 z23 z10 z11 zM zk z92 => ?_) (fun r' hr' => hk250 r' (by rw [hr, hr']))
    have e := Sum.inr.inj hr'
    subst e
    refine ⟨rfl, Rel.good (t := 16 - t) (G := G + 60000) h1 h2 ht' (by omega) q3 q4 q5 q6 F4 (by rw [f4.P (by omega), f3.P (by omega)]; exact s00) (by rw [f4.P (by omega), f3.P (by omega), show 16 - (16 - t) = t by omega]; exact s01) C4 e4 b4 ?_ ?_ ?_ z4 ?_ ?_ f5 z20 z23 z10 z11 zM z92⟩
    · exact ((b1.kept2 fs (fun a j y => by unfold brdX at y; omega)).kept2 f3 (fun a j y => by unfold brdX at y; omega)).kept2 f4 (fun a j y => by unfold brdX at y; omega)
    · rw [f4.I (by omega), f3.I (by omega), g33]; omega
    · rw [f4.I (by omega), f3.I (by omega), fs.I (by omega)]; omega
    · rw [f4.I (by omega), f3.I (by omega)]; exact s29
    · rw [f4.I (by omega), f3.I (by omega), fs.I (by omega)]; exact q1
end ZX
