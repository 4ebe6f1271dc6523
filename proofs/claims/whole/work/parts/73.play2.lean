section ZR
variable {X : ZX} {d n : Nat} {σ : ZSto} {G : Int}
theorem Lst.found {P : Nat → Prop} {lo hi : Nat} {v : Int} (h : Lst P lo hi v) (hv : v ≠ -1) : ∃ j : Nat, j < hi ∧ P j ∧ v = (j : Int) := by
  rcases h with ⟨a, a1⟩ | ⟨j, a1, a2, a3, a4, a5⟩
  · exact absurd a hv
  · exact ⟨j, a2, a3, a4⟩
def clsW (t a : Nat) : Prop := (33 ≤ a ∧ a ≤ 48) ∨ (t ≤ a ∧ a ≤ t + 13) ∨ a = 68
def modW (a i : Nat) : Prop := (74 ≤ a ∧ a ≤ 87) ∨ a = 92 ∨ (a = 73 ∧ (i = 11 ∨ i = 13 ∨ i = 18))
theorem Rel.new {σ1 σ2 : ZSto} {t g m k i : Nat} {c : Int} {T : ATr} (hO : OthR σ) (hS : StepR σ) (ht : zIsT t) (hg : g < 2) (p0 : gP σ 0 0 = some t) (p1 : gP σ 0 1 = some (16 - t)) (e10 : gI σ 73 10 = (g : Int)) (hi : i < k) (hW : TW m k T) (hTS : TSum T k) (hc : -200 ≤ c ∧ c ≤ 200)
    (f1 : Fr (fun a j => clsW t a) σ σ1) (hC : CTr σ1 t m k c T) (e1 : gI σ1 t 16 = (i : Int)) (b1 : BOk σ1 33 m (tBrd T i)) (b2 : BPre σ1 41) (g1 : gI σ1 33 10 ≤ G) (g2 : gI σ1 41 10 ≤ G) (z1 : ∀ p, p < 81 → gI σ1 68 p = 0)
    (f2 : Fr modW σ1 σ2) (hM : MTr σ2 g m k c T) (e2 : gI σ2 73 11 = ((250 * g + i : Nat) : Int)) (z2 : ∀ p, p < 81 → gI σ2 92 p = 0) : Rel σ2 G := by
  have htt : t + 13 ≤ 28 := by unfold zIsT at ht; omega
  have ht0 : 1 ≤ t := by unfold zIsT at ht; omega
  have F : Fr (fun a j => clsW t a ∨ modW a j) σ σ2 := (f1.mono (fun a i q => Or.inl q)).tr (f2.mono (fun a i q => Or.inr q))
  refine ⟨hO.kept F (fun a i q => by unfold clkD tapeD outD plcD koD at q; unfold clsW modW; omega), hS.kept F (fun a i q => by unfold stpD at q; unfold clsW modW; omega), fun p hp => ⟨Or.inl (by rw [f2.I (by unfold modW; omega)]; exact z1 p hp), by rw [z2 p hp, f2.I (by unfold modW; omega), z1 p hp]⟩, t, g, m, k, i, c, T, ⟨ht, hg, by rw [F.P (by unfold clsW modW; omega)]; exact p0, by rw [F.P (by unfold clsW modW; omega)]; exact p1, by rw [F.I (by unfold clsW modW; omega)]; exact e10, e2, by rw [f2.I (by unfold modW; omega)]; exact e1, hi, hW, hTS, hc, hC.kept f2 (fun a i q => by unfold ctrD at q; unfold modW; omega), hM⟩, b1.kept f2 (fun a i q => by unfold brdW at q; unfold modW; omega), b2.kept2 f2 (fun a i q => by unfold brdX at q; unfold modW; omega), by rw [f2.I (by unfold modW; omega)]; exact g1, by rw [f2.I (by unfold modW; omega)]; exact g2⟩
/-- the reference adds a move and goes there -/
theorem sm_addmove (hn : 104 ≤ n) {g m k pl : Nat} {c p : Int} {T : ATr} {P : ZSto → Prop} (hg : g < 2) (hM : MTr σ g m k c T) (hW : TW m k T) (hk : k < 250) (hpk : pl < k) (hm : gI σ 73 13 = (m : Int)) (hpr : p = -1 ∨ (0 ≤ p ∧ p < (m * m : Nat)))
    (hP : ∀ σ8 : ZSto, Fr modW σ σ8 → MTr σ8 g m (k + 1) c (addT T k (pl : Int) (if p = -1 then 2 else 1) (tTrn T pl) p (if p = -1 then 0 else ((cnt (Dies m (tBrd T pl) p.toNat (tTrn T pl)) (m * m) : Nat) : Int)) (3 - tTrn T pl) (if (pl : Int) < 0 then 0 else tDep T ((pl : Int)).toNat + 1) (if p = -1 then tBrd T pl else putB m (tBrd T pl) p.toNat (tTrn T pl)) (fun _ => 3)) → gI σ8 73 11 = ((250 * g + k : Nat) : Int) → (∀ p, p < 81 → gI σ8 92 p = 0) → P σ8) :
    ZkI X M_X10_comes (d + 5) n [.ref (zB X + 73), iV (g : Int), iV ((250 * g + pl : Nat) : Int)] σ (fun v29 σ30 => ZkV X M_X10_moves (d + 5) n [.ref (zB X + 73), iV v29, iV p, iV (tTrn T pl)] σ30 (fun σ35 => ZkV X M_X10_clears (d + 5) n [.ref (zB X + 73)] (sI σ35 73 11 v29) (fun σ41 => P σ41))) := by
  rw [← mX_p]
  refine (sm_comes hn hg hM.2.2.1 hk (by rw [mX_p]; exact ⟨by omega, by omega⟩)).mono ?_
  rintro w σ6 - ⟨rfl, f6, w0, w1, w2, w3, w4, ws, w81⟩
  refine (sm_moves hn hg (fun i hi => (hM.2.2.2 i hi).kept f6 (fun a h1 h2 q => by omega) (fun a q h1 h2 z => by omega)) hW (by rw [f6.I (by omega)]; exact hm) (hW.trn hpk) (x := (pl : Int)) (by omega) (K := 250 * g + k) (by omega) (by omega) w0 hpr).mono ?_
  rintro σ7 ⟨f7, q1, q2, q3, q4, qb⟩
  rw [bB_p] at q4 qb
  refine (sm_clears hn).mono ?_
  rintro σ8 ⟨f8, z8⟩
  have F58 : Fr (fun a i => ((74 ≤ a ∧ a ≤ 78) ∧ i = 250 * g + k) ∨ ((a = 79 ∨ a = 80) ∧ 81 * (250 * g + k) ≤ i ∧ i < 81 * (250 * g + k) + 81) ∨ (a = 81 ∧ i = g) ∨ (84 ≤ a ∧ a ≤ 87) ∨ (a = 73 ∧ (i = 11 ∨ i = 18)) ∨ a = 92) σ σ8 := (((f6.mono (fun a i q => by omega)).tr (f7.mono (fun a i q => by unfold movW putW at q; omega))).sI (by omega)).tr (f8.mono (fun a i q => by omega))
  have F78 : Fr (fun a i => (a = 73 ∧ i = 11) ∨ a = 92) σ7 σ8 := (Fr.rf.sI (by omega)).tr (f8.mono (fun a i q => by omega))
  refine hP σ8 (F58.mono (fun a i q => by unfold modW; omega)) ?_ (by rw [f8.I (by omega), gI_same]) z8
  refine hM.add hk F58 (fun a i q z => by unfold mtrD at q; omega) ?_ ?_ ?_ ?_ ?_ ?_ (fun q hq => ?_) (fun q hq => ?_)
  · rw [F78.I (by omega), f7.I (by unfold movW putW; omega)]; exact w81
  · rw [F78.I (by omega), f7.I (by unfold movW putW; omega)]; exact w0
  · rw [F78.I (by omega)]; exact q1
  · rw [F78.I (by omega)]; exact q2
  · rw [F78.I (by omega)]; exact q3
  · rw [F78.I (by omega), q4]; split <;> rfl
  · rw [F78.I (by omega)]; exact qb q hq
  · rw [F78.I (by omega), f7.I (by unfold movW putW; omega)]; exact ws q hq
theorem op_play (hn : 104 ≤ n) (h : Rel σ G) (hG : G ≤ 1900000000) {p : Int} (hp : R32 p) : ZkI X M_X9_play (d + 7) n [.ref (zB X + 0), iV p] σ (fun v σ1 => ZkI X M_X10_play (d + 6) n [.ref (zB X + 73), iV p] σ1 (fun w σ2 => v = w ∧ Rel σ2 (G + 60000))) := by
  have hR := h
  have hn' : 73 ≤ n := by omega
  obtain ⟨h1, h2, h3, t, g, m, k, pl, c, T, hGm, hB, hB2, g1, g2⟩ := h
  have hGm' := hGm
  obtain ⟨ht, hg, p0, p1, e10, e11, e16, hpk, hW, hTS, hc, hC, hM⟩ := hGm
  obtain ⟨hko1, hko2, hko3⟩ := h1.2.2.2.2
  have hk2 := hW.2.2.1
  have hN := sq_le hW.2.1
  have htt : t + 13 ≤ 28 := by unfold zIsT at ht; omega
  have ht1 : 1 ≤ t := by unfold zIsT at ht; omega
  have htn := hW.trn hpk
  have tg : ((g : Int)).toNat = g := by omega
  refine w_X9_play hn' hp ((sp_statusOf hn' ht p0 hC hW e16 hpk hB hB2 (by omega) hp ⟨by omega, by omega⟩).mono ?_)
  rintro v σ1 - ⟨f1, s1, b1, c1, a1⟩
  have hB1 : BOk σ1 33 m (tBrd T pl) := hB.kept f1 (fun a i q z => by unfold brdW at q z; omega)
  -- the reference's status, at any store that agrees with σ on its game
  have stat : ∀ (W : Nat → Nat → Prop) (τ : ZSto), Fr W σ τ → (∀ a i, mtrD g a i ∨ (a = 73 ∧ (i = 10 ∨ i = 11 ∨ i = 12)) → ¬ W a i) → ZkI X M_X10_status (d + 5) n [.ref (zB X + 73), iV p] τ (fun w σ' => Fr staW τ σ' ∧ v = w ∧ gI σ' 73 13 = (m : Int) ∧ MTr σ' g m k c T ∧ gI σ' 73 10 = (g : Int) ∧ gI σ' 73 11 = ((250 * g + pl : Nat) : Int)) := by
    intro W τ hf hw
    have hM' := hM.kept hk2 hf (fun a i q => hw a i (Or.inl q))
    have t10 : gI τ 73 10 = (g : Int) := by rw [hf.I (hw _ _ (by omega))]; exact e10
    have t11 : gI τ 73 11 = ((250 * g + pl : Nat) : Int) := by rw [hf.I (hw _ _ (by omega))]; exact e11
    refine (sm_status (ko := gI σ 0 13) hn hg t10 hM' hW t11 hpk (by rw [hf.I (hw _ _ (by omega))]; exact hko1) hp).mono ?_
    rintro w σ' - ⟨f2, s2, m2⟩
    exact ⟨f2, s1.uniq s2, m2, hM'.kept hk2 f2 (fun a i q z => by unfold mtrD at q; unfold staW putW at z; omega), by rw [f2.I (by unfold staW putW; omega)]; exact t10, by rw [f2.I (by unfold staW putW; omega)]; exact t11⟩
  refine ⟨fun hv0 => ?_, fun hv0 => ?_⟩
  · subst hv0
    have hC1 : CTr σ1 t m k c T := hC.kept f1 (fun a i q z => by unfold ctrD at q; unfold brdW at z; omega)
    have p01 : gP σ1 0 0 = some t := by rw [f1.P (by unfold brdW; omega)]; exact p0
    have e161 : gI σ1 t 16 = (pl : Int) := by rw [f1.I (by unfold brdW; omega)]; exact e16
    refine ⟨t, p01, ht, ?_⟩
    rw [e161]
    refine (sp_turnAt hn' ht hC1 hk2 hpk).mono ?_
    rintro v _ - ⟨rfl, rfl⟩
    refine ⟨t, p01, ht, ?_⟩
    rw [e161]
    refine (sp_childOf hn' ht hC1 hk2 hpk ⟨by omega, by omega⟩ hp).mono ?_
    rintro v _ - ⟨rfl, hL⟩
    -- the reference finds the same child
    have child : ∀ τ : ZSto, MTr τ g m k c T → ZkI X M_X10_child (d + 5) n [.ref (zB X + 73), iV ((250 * g + pl : Nat) : Int), iV p, iV (tTrn T pl)] τ (fun w σ' => τ = σ' ∧ w = mX g v) := by
      intro τ hM'
      refine (sm_child hn hg hM'.2.2.2 hM'.2.2.1 hW hpk htn hp).mono ?_
      rintro w _ - ⟨rfl, v', hv', hL'⟩
      exact ⟨rfl, by rw [hv', hL.uniq hL']⟩
    have found : v ≠ -1 → ZkV X M_X9_moveTo (d + 6) n [.ref (zB X + 0), iV v] σ1 (fun σ31 => ZkI X M_X10_play (d + 6) n [.ref (zB X + 73), iV p] σ31 (fun w σ2 => (0 : Int) = w ∧ Rel σ2 (G + 60000))) := by
      intro hne
      obtain ⟨i, hi, -, rfl⟩ := hL.found hne
      refine (sp_moveTo hn' ht p01 hC1 hW hi hB1).mono ?_
      rintro σ2 ⟨f2, e2, b2, z2⟩
      have F : Fr (fun a j => brdW 41 a ∨ (a = t ∧ j = 16) ∨ a = 34 ∨ a = 68) σ σ2 := (f1.mono (fun a i q => Or.inl q)).tr (f2.mono (fun a i q => Or.inr q))
      refine w_X10_play hn hp ((stat _ σ2 F (fun a i q z => by unfold mtrD at q; unfold brdW at z; omega)).mono ?_)
      rintro w σ3 - ⟨f3, rfl, m3, hM3, u10, u11⟩
      refine ⟨fun _ => ?_, fun q => by omega⟩
      rw [u11]
      refine (sm_turn hn hg hM3.2.2.2 hW hpk).mono ?_
      rintro w _ - ⟨rfl, rfl⟩
      rw [u11]
      refine (child σ3 hM3).mono ?_
      rintro w _ - ⟨rfl, rfl⟩
      rw [mX_p]
      refine ⟨fun _ => (sm_clears hn).mono ?_, fun q => by omega⟩
      rintro σ4 ⟨f4, z4⟩
      have F34 : Fr modW σ2 σ4 := ((f3.mono (fun a i q => by unfold staW putW at q; unfold modW; omega)).sI (by unfold modW; omega)).tr (f4.mono (fun a i q => by unfold modW; omega))
      refine ⟨rfl, Rel.new h1 h2 ht hg p0 p1 e10 hi hW hTS hc (F.mono (fun a i q => by unfold brdW at q; unfold clsW; omega)) (hC1.kept f2 (fun a i q z => by unfold ctrD at q; omega)) e2 b2 (b1.kept2 f2 (fun a i q => by unfold brdX at q; omega)) (by rw [f2.I (by omega), f1.I (by unfold brdW; omega)]; omega) (by rw [f2.I (by omega)]; omega) z2 F34 ((hM3.kept hk2 (Fr.rf.sI (a := 73) (i := 11) (W := fun a i => a = 73 ∧ i = 11) ⟨rfl, rfl⟩) (fun a i q z => by unfold mtrD at q; omega)).kept hk2 f4 (fun a i q => by unfold mtrD at q; omega)) (by rw [f4.I (by omega), gI_same]) z4⟩
    refine ⟨found, fun hne => ?_⟩
    rw [hne] at hL
    -- a new node
    have hk : k < 250 := by
      rcases s1 with ⟨_, _, q⟩ | ⟨_, _, q⟩ | ⟨_, ⟨q, _⟩ | ⟨_, q, _⟩ | ⟨_, _, q⟩⟩
      · omega
      · omega
      · omega
      · omega
      · have : ¬ k = 250 := fun z => q ⟨z, hL⟩
        omega
    have hpr : p = -1 ∨ (0 ≤ p ∧ p < (m * m : Nat)) := by
      rcases s1 with ⟨_, _, q⟩ | ⟨_, _, q⟩ | ⟨q | q, _⟩
      · omega
      · omega
      · exact Or.inl q
      · exact Or.inr q.1
    obtain ⟨br, ebr⟩ : ∃ br : Nat → Int, br = if p = -1 then tBrd T pl else putB m (tBrd T pl) p.toNat (tTrn T pl) := ⟨_, rfl⟩
    obtain ⟨tok, etok⟩ : ∃ tok : Int, tok = if p = -1 then 0 else ((cnt (Dies m (tBrd T pl) p.toNat (tTrn T pl)) (m * m) : Nat) : Int) := ⟨_, rfl⟩
    have hbr : BCon m br ∧ Pad m br := by
      have hc0 := hW.con hpk
      have hp0 : Pad m (tBrd T pl) := (hW.2.2.2 pl hpk).2.2.2.2.2.2.2.2.2.2.2.2.2.2.2.2.1
      rw [ebr]
      split
      · exact ⟨hc0, hp0⟩
      · exact ⟨offB_con (setB_con hc0 htn), putB_pad hp0 (by omega)⟩
    have htok : 0 ≤ tok ∧ tok ≤ 81 := by
      rw [etok]
      have := cnt_le (Dies m (tBrd T pl) p.toNat (tTrn T pl)) (m * m)
      split <;> omega
    obtain ⟨T', eT⟩ : ∃ T', T' = addT T k (pl : Int) (if p = -1 then 2 else 1) (tTrn T pl) p tok (3 - tTrn T pl) (if (pl : Int) < 0 then 0 else tDep T ((pl : Int)).toNat + 1) br (fun _ => 3) := ⟨_, rfl⟩
    have hW' : TW m (k + 1) T' := by rw [eT]; exact hW.add hk (NW_move hW (Or.inr ⟨pl, hpk, rfl⟩) htn hpr htok hbr.1 hbr.2)
    have hTS' : TSum T' (k + 1) := by rw [eT]; exact hTS.add
    have brk : tBrd T' k = br := by rw [eT]; exact addT_k.2.2.2.2.2.2.2.1
    -- both add it
    have fin : ∀ σ2 : ZSto, Fr (fun a i => brdW 41 a) σ1 σ2 → BOk σ2 41 m br → gI σ2 41 10 ≤ G + 5 → (p ≠ -1 → gI σ2 41 12 = tok) → ZkI X M_X7_addMove (d + 6) n [.ref (zB X + t), iV (pl : Int), iV (tTrn T pl), iV p, .ref (zB X + 41)] σ2 (fun v43 σ44 => ZkV X M_X9_moveTo (d + 6) n [.ref (zB X + 0), iV v43] σ44 (fun σ49 => ZkI X M_X10_play (d + 6) n [.ref (zB X + 73), iV p] σ49 (fun w σ2 => (0 : Int) = w ∧ Rel σ2 (G + 60000)))) := by
      intro σ2 f2 b2 c2 k2
      have hC2 : CTr σ2 t m k c T := hC1.kept f2 (fun a i q z => by unfold ctrD at q; unfold brdW at z; omega)
      refine (sp_addMove hn' ht (Or.inr rfl) hC2 hW b2 hk (Or.inr ⟨pl, hpk, rfl⟩) htn hp).mono ?_
      rintro v σ3 - ⟨rfl, f3, hC3⟩
      have etk : (if p = -1 then 0 else gI σ2 41 12) = tok := by
        by_cases z : p = -1
        · rw [etok, if_pos z, if_pos z]
        · rw [if_neg z]; exact k2 z
      rw [etk, ← eT] at hC3
      have hB3 : BOk σ3 33 m (tBrd T pl) := (hB1.kept f2 (fun a i q z => by unfold brdW at q z; omega)).kept f3 (fun a i q z => by unfold brdW at q; omega)
      refine (sp_moveTo hn' ht (by rw [f3.P (by omega), f2.P (by unfold brdW; omega)]; exact p01) hC3 hW' (show k < k + 1 by omega) hB3).mono ?_
      rintro σ4 ⟨f4, e4, b4, z4⟩
      have F4 : Fr (fun a j => (41 ≤ a ∧ a ≤ 48) ∨ (t ≤ a ∧ a ≤ t + 13) ∨ a = 34 ∨ a = 68) σ σ4 := (((f1.tr f2).mono (fun a i q => by unfold brdW at q; omega)).tr (f3.mono (fun a i q => by omega))).tr (f4.mono (fun a i q => by omega))
      refine w_X10_play hn hp ((stat _ σ4 F4 (fun a i q z => by unfold mtrD at q; omega)).mono ?_)
      rintro w σ5 - ⟨f5, rfl, m5, hM5, u10, u11⟩
      refine ⟨fun _ => ?_, fun q => by omega⟩
      rw [u11]
      refine (sm_turn hn hg hM5.2.2.2 hW hpk).mono ?_
      rintro w _ - ⟨rfl, rfl⟩
      rw [u11]
      refine (child σ5 hM5).mono ?_
      rintro w _ - ⟨rfl, rfl⟩
      rw [hne, mX_n (by omega), u10]
      refine ⟨fun q => by omega, fun _ => ?_⟩
      rw [u11]
      refine sm_addmove hn hg hM5 hW hk hpk m5 hpr (fun σ8 F8 M8 e8 z8 => ⟨rfl, ?_⟩)
      rw [← etok, ← ebr, ← eT] at M8
      exact Rel.new h1 h2 ht hg p0 p1 e10 (show k < k + 1 by omega) hW' hTS' hc (F4.mono (fun a i q => by unfold clsW; omega)) (hC3.kept f4 (fun a i q z => by unfold ctrD at q; omega)) e4 b4 ((b2.pre.kept2 f3 (fun a i q => by unfold brdX at q; omega)).kept2 f4 (fun a i q => by unfold brdX at q; omega)) (by rw [f4.I (by omega), f3.I (by omega), f2.I (by unfold brdW; omega), f1.I (by unfold brdW; omega)]; omega) (by rw [f4.I (by omega), f3.I (by omega)]; omega) z4 ((f5.mono (fun a i q => by unfold staW putW at q; unfold modW; omega)).tr F8) M8 e8 z8
    refine ⟨fun hne1 => ⟨t, p01, ht, ?_⟩, fun hp1 => ?_⟩
    · rw [e161]
      have := a1 rfl hne1
      exact fin σ1 Fr.rf (by rw [ebr, if_neg hne1]; exact this.1) (by omega) (fun _ => by rw [etok, if_neg hne1]; exact this.2)
    · refine (sp_copyOf hn' (Or.inr rfl) (Or.inl rfl) (by omega) b1 hB1).mono ?_
      rintro σ2 ⟨f2, b2⟩
      refine ⟨t, by rw [f2.P (by omega)]; exact p01, ht, ?_⟩
      rw [f2.I (a := t) (by omega), e161]
      exact fin σ2 (f2.mono (fun a i q => by unfold brdW; omega)) (by rw [ebr, if_pos hp1]; exact b2) (by rw [f2.I (by omega)]; omega) (fun z => absurd hp1 z)
  · refine w_X10_play hn hp ((stat _ σ1 f1 (fun a i q z => by unfold mtrD at q; unfold brdW at z; omega)).mono ?_)
    rintro w σ2 - ⟨f2, rfl, -⟩
    have := s1.r
    refine ⟨fun q => by omega, fun _ => ⟨rfl, ?_⟩⟩
    have f12 : Fr qW σ σ2 := (f1.mono (W' := qW) (fun a i q => Or.inr (Or.inl q))).tr (f2.mono (W' := qW) (fun a i q => by unfold staW putW at q; unfold qW; omega))
    have f12' : Fr (fun a i => brdW 41 a ∨ staW a i) σ σ2 := (f1.mono (fun a i q => Or.inl q)).tr (f2.mono (fun a i q => Or.inr q))
    exact hR.qry f12 (fun m bd hb => hb.kept f12' (fun a i q => by unfold brdW at q; unfold brdW staW putW; omega)) (b1.kept2 f2 (fun a i q => by unfold brdX at q; unfold staW putW; omega)) (by rw [f12'.I (by unfold brdW staW putW; omega)]; omega) (by rw [f2.I (by unfold staW putW; omega)]; omega)
end ZR
