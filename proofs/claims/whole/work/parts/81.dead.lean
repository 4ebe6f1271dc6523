section ZW
variable {X : ZX} {d n : Nat} {σ : ZSto} {G : Int}
theorem sp_markGathered (hn : 73 ≤ n) {m s : Nat} {bd : Nat → Int} {σ0 : ZSto} {x : Int} (hG : Gth σ0 σ 33 m bd (fun y => bd y = bd s) s) (hs : s < m * m) (h9 : m ≤ 9) (hx : x = 0 ∨ x = 1) :
    ZkV X M_X6_markGathered (d + 1) n [.ref (zB X + 67), iV x] σ (fun σ' => Fr (fun a i => a = 68) σ σ' ∧ ∀ q : Nat, (Chn m bd s q → gI σ' 68 q = x) ∧ (¬ Chn m bd s q → gI σ' 68 q = gI σ 68 q)) := by
  have hN := sq_le h9
  have h9' : gI σ 33 9 = (cnt (Chn m bd s) (m * m) : Nat) := hG.2.2.2.2.1
  have hcl := cnt_le (Chn m bd s) (m * m)
  refine w_X6_markGathered hn ⟨by omega, by omega⟩ ?_
  have iff : ∀ q : Nat, (∃ i, i < cnt (Chn m bd s) (m * m) ∧ gI σ 36 i = (q : Int)) ↔ Chn m bd s q := by
    intro q
    constructor
    · rintro ⟨i, i1, i2⟩
      obtain ⟨r, r1, r2⟩ := hG.2.2.2.2.2.1 i (by rw [h9']; omega)
      rw [show 33 + 3 = 36 by omega] at r1
      have : q = r := by omega
      rw [this]; exact r2
    · intro h
      obtain ⟨i, i1, i2⟩ := hG.2.2.2.2.2.2.1 q h
      exact ⟨i, by rw [h9'] at i1; omega, i2⟩
  have := upto (N := cnt (Chn m bd s) (m * m)) (Q := fun i τ => L_X6_markGathered_2 X d n (zpV (fun σ' => Fr (fun a i => a = 68) σ σ' ∧ ∀ q : Nat, (Chn m bd s q → gI σ' 68 q = x) ∧ (¬ Chn m bd s q → gI σ' 68 q = gI σ 68 q))) x (i : Int) τ) (I := fun i τ => Fr (fun a i => a = 68) σ τ ∧ (∀ q : Nat, (∃ i', i' < i ∧ gI σ 36 i' = (q : Int)) → gI τ 68 q = x) ∧ ∀ q : Nat, (¬ ∃ i', i' < i ∧ gI σ 36 i' = (q : Int)) → gI τ 68 q = gI σ 68 q) ?_ ?_ 0 σ (by omega) ⟨Fr.rf, fun q ⟨i', h, _⟩ => by omega, fun _ _ => rfl⟩
  · simpa using this
  · rintro τ ⟨hf, a1, a2⟩
    refine b_X6_markGathered_2 hn ?_
    rw [hf.I (a := 33) (by omega), h9']
    exact ⟨fun _ => ⟨hf, fun q => ⟨fun z => a1 q ((iff q).mpr z), fun z => a2 q (fun w => z ((iff q).mp w))⟩⟩, fun q => by omega⟩
  · rintro i τ hi ⟨hf, a1, a2⟩ ih
    have ti : ((i : Int)).toNat = i := by omega
    obtain ⟨r, r1, r2⟩ := hG.2.2.2.2.2.1 i (by rw [h9']; omega)
    rw [show 33 + 3 = 36 by omega] at r1
    have hr : r < m * m := Rch.lt r2 hs
    have tr : ((r : Int)).toNat = r := by omega
    refine b_X6_markGathered_2 hn ?_
    rw [hf.I (a := 33) (by omega), h9', ti, hf.I (a := 36) (by omega), r1, tr]
    refine ⟨fun q => by omega, fun _ => ⟨fun q => by omega, fun _ => ⟨by omega, by omega, hx, ⟨by omega, by omega⟩, ?_⟩⟩⟩
    have := ih (sI τ 68 r x) ⟨hf.sI rfl, fun q hq => ?_, fun q hq => ?_⟩
    · simpa using this
    · by_cases e : q = r
      · subst e; exact gI_same _ _ _ _
      · rw [gI_f e]
        obtain ⟨i', i1, i2⟩ := hq
        exact a1 q ⟨i', by
          have : i' ≠ i := fun z => by rw [z, r1] at i2; omega
          omega, i2⟩
    · have e : q ≠ r := fun e => hq ⟨i, by omega, by rw [r1, e]⟩
      rw [gI_f e]
      exact a2 q (fun ⟨i', i1, i2⟩ => hq ⟨i', by omega, i2⟩)
theorem dead_loop (hn : 104 ≤ n) {m : Nat} {D : Nat → Prop} {x : Int} (h9 : m ≤ 9) (hm : gI σ 73 13 = (m : Int)) (hD : ∀ q, q < 81 → (gI σ 85 q = 1 ↔ D q)) (hb : ∀ q, q < 81 → gI σ 85 q = 0 ∨ gI σ 85 q = 1) (hDm : ∀ q, D q → q < m * m) (hx : x = 0 ∨ x = 1) {P : Int → ZSto → Prop}
    (hP : ∀ τ : ZSto, Fr (fun a i => a = 92) σ τ → (∀ q, q < m * m → (D q → gI τ 92 q = x) ∧ (¬ D q → gI τ 92 q = gI σ 92 q)) → (∀ q, m * m ≤ q → gI τ 92 q = gI σ 92 q) → P (cnt D (m * m) : Nat) τ) :
    L_X10_dead_19 X (d + 1) n (zpI P) x 0 σ := by
  have hN := sq_le h9
  have mm : (m : Int) * (m : Int) = ((m * m : Nat) : Int) := by simp
  have := upto (N := m * m) (Q := fun i τ => L_X10_dead_19 X (d + 1) n (zpI P) x (i : Int) τ) (I := fun i τ => Fr (fun a i => a = 92) σ τ ∧ (∀ q, q < i → (D q → gI τ 92 q = x) ∧ (¬ D q → gI τ 92 q = gI σ 92 q)) ∧ ∀ q, i ≤ q → gI τ 92 q = gI σ 92 q) ?_ ?_ 0 σ (by omega) ⟨Fr.rf, fun q hq => by omega, fun _ _ => rfl⟩
  · simpa using this
  · rintro τ ⟨hf, a1, a2⟩
    refine b_X10_dead_19 hn ?_
    rw [hf.I (by omega), hm, mm]
    refine ⟨⟨by omega, by omega⟩, fun _ => (sm_stones hn (D := D) (fun q hq => by rw [hf.I (by omega)]; exact hD q hq) (fun q hq => by rw [hf.I (by omega)]; exact hb q hq)).mono ?_, fun q => by omega⟩
    rintro v _ - ⟨rfl, rfl⟩
    rw [cnt_ext hN (fun i h1 _ hz => by have := hDm i hz; omega)]
    exact hP τ hf a1 a2
  · rintro i τ hi ⟨hf, a1, a2⟩ ih
    have ti : ((i : Int)).toNat = i := by omega
    have hDi := hD i (by omega)
    have hbi := hb i (by omega)
    refine b_X10_dead_19 hn ?_
    rw [hf.I (a := 73) (by omega), hm, mm, ti, hf.I (a := 85) (by omega)]
    refine ⟨⟨by omega, by omega⟩, fun q => by omega, fun _ => ⟨by omega, fun q => ⟨⟨by omega, by omega⟩, ?_⟩, fun q => ⟨hx, ⟨by omega, by omega⟩, ?_⟩⟩⟩
    · have nd : ¬ D i := fun z => by have := hDi.mpr z; omega
      have := ih τ ⟨hf, fun r hr => ?_, fun r hr => a2 r (by omega)⟩
      · simpa using this
      · by_cases e : r = i
        · subst e; exact ⟨fun z => absurd z nd, fun _ => a2 r (by omega)⟩
        · exact a1 r (by omega)
    · have yd : D i := hDi.mp (by omega)
      have := ih (sI τ 92 i x) ⟨hf.sI rfl, fun r hr => ?_, fun r hr => by rw [gI_f (by omega)]; exact a2 r (by omega)⟩
      · simpa using this
      · by_cases e : r = i
        · subst e; exact ⟨fun _ => gI_same _ _ _ _, fun z => absurd yd z⟩
        · rw [gI_f e]; exact a1 r (by omega)
theorem op_dead (hn : 104 ≤ n) (h : Rel σ G) (hG : G ≤ 1900000000) {x y : Int} (hx : R32 x) (hy : y = 0 ∨ y = 1) : ZkI X M_X9_dead (d + 3) n [.ref (zB X + 0), iV x, iV y] σ (fun v σ1 => ZkI X M_X10_dead (d + 4) n [.ref (zB X + 73), iV x, iV y] σ1 (fun w σ2 => v = w ∧ Rel σ2 (G + 60000))) := by
  have hR := h
  have hn' : 73 ≤ n := by omega
  obtain ⟨h1, h2, h3, t, g, m, k, pl, c, T, hGm, hB, hB2, g1, g2⟩ := h
  have hGm' := hGm
  obtain ⟨ht, hg, p0, p1, e10, e11, e16, hpk, hW, hTS, hc, hC, hM⟩ := hGm
  have hN := sq_le hW.2.1
  have htt : t + 13 ≤ 28 := by unfold zIsT at ht; omega
  have hyr : R32 y := ⟨by omega, by omega⟩
  refine w_X9_dead hn' hx hyr ((sp_hasStone hn' (Or.inl rfl) hB.1 hB.2.1 hB.2.2.1 hx).mono ?_)
  rintro v _ - ⟨rfl, ⟨rfl, hv⟩ | ⟨rfl, hv⟩⟩
  · refine ⟨fun _ => ?_, fun q => by omega⟩
    obtain ⟨xn, rfl⟩ : ∃ xn : Nat, x = (xn : Int) := ⟨x.toNat, by omega⟩
    have txn : ((xn : Int)).toNat = xn := by omega
    rw [txn] at hv
    have hlt : xn < m * m := by omega
    refine (sp_gatherChain hn' (Or.inl rfl) hB hlt hv.2.2 (by omega)).mono ?_
    intro σ1 hG1
    refine (sp_markGathered hn' hG1 hlt hW.2.1 hy).mono ?_
    rintro σ2 ⟨f2, a2⟩
    have F2 : Fr (fun a i => gatW 33 a i ∨ a = 68) σ σ2 := (hG1.1.mono (fun a i q => Or.inl q)).tr (f2.mono (fun a i q => Or.inr q))
    refine w_X10_dead hn hx hyr ((sm_isStone hn hg (by rw [F2.I (by unfold gatW; omega)]; exact e10) (by rw [F2.I (by unfold gatW; omega)]; exact e11) (hM.kept hW.2.2.1 F2 (fun a i q => by unfold mtrD at q; unfold gatW; omega)) hW hpk hx).mono ?_)
    rintro w σ3 - ⟨f3, w3, m3, ⟨rfl, hw⟩ | ⟨rfl, hw⟩⟩
    · refine ⟨fun _ => ?_, fun q => by omega⟩
      have hcb := hW.con hpk xn hlt
      refine (sm_flood hn hW.1 hW.2.1 m3 (fun p hp => w3 p (by omega)) hlt hv.2.2 ⟨by omega, by omega⟩).mono ?_
      rintro v4 σ4 - ⟨hF, -⟩
      refine dead_loop hn hW.2.1 (by rw [hF.1.I (by unfold fldW; omega)]; exact m3) hF.2.2.1 (fun q hq => (hF.2.1 q hq).1) (fun q hq => Chn.lt hq hlt) hy (fun σ5 f5 b5 c5 => ?_)
      have F35 : Fr (fun a i => shwW a i ∨ fldW a i ∨ a = 92) σ2 σ5 := ((f3.mono (fun a i q => Or.inl q)).tr (hF.1.mono (fun a i q => Or.inr (Or.inl q)))).tr (f5.mono (fun a i q => Or.inr (Or.inr q)))
      have F05 : Fr (fun a i => gatW 33 a i ∨ a = 68 ∨ shwW a i ∨ fldW a i ∨ a = 92) σ σ5 := (F2.mono (fun a i q => by rcases q with q | q; exact Or.inl q; exact Or.inr (Or.inl q))).tr (F35.mono (fun a i q => Or.inr (Or.inr q)))
      refine ⟨?_, h1.kept F05 (fun a i q => by unfold clkD tapeD outD plcD koD at q; unfold gatW shwW fldW; omega), h2.kept F05 (fun a i q => by unfold stpD at q; unfold gatW shwW fldW; omega), fun p hp => ?_, t, g, m, k, pl, c, T, hGm'.kept F05 (fun a i q => by unfold gmD ctrD mtrD at q; unfold gatW shwW fldW; omega), ?_, ?_, ?_, ?_⟩
      · rw [f2.I (by omega)]
        exact hG1.2.2.2.2.1
      · have o92 : ∀ q, gI σ4 92 q = gI σ 92 q := fun q => by rw [hF.1.I (by unfold fldW; omega), f3.I (by unfold shwW; omega), F2.I (by unfold gatW; omega)]
        have o68 : gI σ5 68 p = gI σ2 68 p := F35.I (by unfold shwW fldW; omega)
        have o681 : gI σ1 68 p = gI σ 68 p := hG1.1.I (by unfold gatW; omega)
        by_cases z : Chn m (tBrd T pl) xn p
        · rw [o68, (a2 p).1 z, (b5 p (z.lt hlt)).1 z]
          exact ⟨hy, rfl⟩
        · have e92 : gI σ5 92 p = gI σ 92 p := by
            rw [← o92]
            by_cases zz : p < m * m
            · exact (b5 p zz).2 z
            · exact c5 p (by omega)
          rw [o68, (a2 p).2 z, o681, e92]
          exact h3 p hp
      · exact ((hG1.ok hB).kept f2 (fun a i q => by unfold brdW at q; omega)).kept F35 (fun a i q => by unfold brdW at q; unfold shwW fldW; omega)
      · exact hB2.kept2 F05 (fun a i q => by unfold brdX at q; unfold gatW shwW fldW; omega)
      · rw [F35.I (by unfold shwW fldW; omega), f2.I (by omega), hG1.2.1]; omega
      · rw [F05.I (by unfold gatW shwW fldW; omega)]; omega
    · exact absurd ⟨hv.1, hv.2.1, by rw [txn]; exact hv.2.2⟩ hw
  · refine ⟨fun q => by omega, fun _ => w_X10_dead hn hx hyr ((sm_isStone hn hg e10 e11 hM hW hpk hx).mono ?_)⟩
    rintro w σ3 - ⟨f3, w3, m3, ⟨rfl, hw⟩ | ⟨rfl, hw⟩⟩
    · exact absurd hw hv
    · exact ⟨fun q => by omega, fun _ => ⟨rfl, hR.shw (f3.mono (fun a i q => Or.inl q))⟩⟩
end ZW
