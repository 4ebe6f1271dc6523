theorem cnt_up {P : Nat → Prop} {a b : Nat} (h : a ≤ b) : cnt P a ≤ cnt P b := by
  induction h with
  | refl => exact Nat.le_refl _
  | step _ ih =>
    rename_i b' _
    by_cases q : P b'
    · rw [cnt_s q]; omega
    · rw [cnt_n q]; exact ih
theorem NW_move {m k : Nat} {T : ATr} {x mv w tok : Int} {br : Nat → Int} (hW : TW m k T) (hx : (k = 0 ∧ x = -1) ∨ ∃ b : Nat, b < k ∧ x = (b : Int)) (hmv : mv = 1 ∨ mv = 2) (hw : w = -1 ∨ (0 ≤ w ∧ w < (m * m : Nat))) (htok : 0 ≤ tok ∧ tok ≤ 81) (hbr : BCon m br) (hpd : Pad m br) :
    NW m (addT T k x (if w = -1 then 2 else 1) mv w tok (3 - mv) (if x < 0 then 0 else tDep T x.toNat + 1) br (fun _ => 3)) k := by
  obtain ⟨e1, e2, e3, e4, e5, e6, e7, e8, e9⟩ := addT_k (T := T) (k := k) (a0 := x) (a1 := if w = -1 then 2 else 1) (a2 := mv) (a3 := w) (a4 := tok) (a5 := 3 - mv) (a6 := if x < 0 then 0 else tDep T x.toNat + 1) (br := br) (st := fun _ => 3)
  unfold NW
  rw [e1, e2, e3, e4, e5, e6, e7, e8, e9]
  have kn : (if w = -1 then (2 : Int) else 1) ≠ 0 := by split <;> omega
  have hdep : (k = 0 → (if x < 0 then 0 else tDep T x.toNat + 1) = 0) ∧ (0 < k → (if x < 0 then 0 else tDep T x.toNat + 1) = tDep (addT T k x (if w = -1 then 2 else 1) mv w tok (3 - mv) (if x < 0 then 0 else tDep T x.toNat + 1) br (fun _ => 3)) x.toNat + 1) ∧ (0 ≤ (if x < 0 then 0 else tDep T x.toNat + 1) ∧ (if x < 0 then 0 else tDep T x.toNat + 1) ≤ (k : Int)) ∧ (k = 0 → x = -1) ∧ (0 < k → 0 ≤ x ∧ x < k) := by
    rcases hx with ⟨rfl, rfl⟩ | ⟨b, hb, rfl⟩
    · exact ⟨fun _ => rfl, fun q => by omega, by rw [if_pos (by omega)]; omega, fun _ => rfl, fun q => by omega⟩
    · have tb : ((b : Int)).toNat = b := by omega
      have hd := (hW.2.2.2 b hb).2.2.2.2.2.2.2.2.2.2.2.2.2.2.1
      rw [tb]
      refine ⟨fun q => by omega, fun _ => ?_, by rw [if_neg (by omega)]; omega, fun q => by omega, fun _ => by omega⟩
      rw [(addT_n (show b ≠ k by omega)).2.2.2.2.2.2.1, if_neg (by omega)]
  obtain ⟨d1, d2, d3, d4, d5⟩ := hdep
  refine ⟨d4, d5, by split <;> omega, fun q => absurd q kn, fun _ => hmv, fun q => by split at q <;> omega, fun q => by split at q <;> omega, htok, by omega, fun _ => rfl, fun q => absurd q kn, fun q => absurd q kn, d1, d2, d3, hbr, hpd, fun _ => (by show (0 : Int) ≤ 3 ∧ (3 : Int) ≤ 3; omega), fun _ _ => rfl⟩
theorem TW.add {m k : Nat} {T : ATr} {a0 a1 a2 a3 a4 a5 a6 : Int} {br st : Nat → Int} (hW : TW m k T) (hk : k < 250) (h : NW m (addT T k a0 a1 a2 a3 a4 a5 a6 br st) k) : TW m (k + 1) (addT T k a0 a1 a2 a3 a4 a5 a6 br st) := by
  refine ⟨hW.1, hW.2.1, by omega, fun i hi => ?_⟩
  by_cases e : i = k
  · subst e; exact h
  · exact (hW.2.2.2 i (by omega)).add (by omega)
theorem tsum_add {T : ATr} {k : Nat} {a0 a1 a2 a3 a4 a5 a6 : Int} {br st : Nat → Int} : cnt (fun j => tSet (addT T k a0 a1 a2 a3 a4 a5 a6 br st) (j / 81) (j % 81) ≠ 3) (81 * k) = cnt (fun j => tSet T (j / 81) (j % 81) ≠ 3) (81 * k) :=
  cnt_congr (fun j hj => by rw [(addT_n (show j / 81 ≠ k by omega)).2.2.2.2.2.2.2.2])
theorem TSum.add {T : ATr} {k : Nat} {a0 a1 a2 a3 a4 a5 a6 : Int} {br : Nat → Int} (h : TSum T k) : TSum (addT T k a0 a1 a2 a3 a4 a5 a6 br (fun _ => 3)) (k + 1) := by
  unfold TSum
  rw [cnt_ext (n := 81 * k) (by omega) (fun j h1 h2 => ?_), tsum_add]
  · exact h
  · have : j / 81 = k := by omega
    rw [this, addT_k.2.2.2.2.2.2.2.2]; exact fun z => z rfl
theorem MTr.add {W : Nat → Nat → Prop} {σ σ' : ZSto} {g m k : Nat} {c x a1 a2 a3 a4 a5 a6 : Int} {T : ATr} {br st : Nat → Int} (hM : MTr σ g m k c T) (hk : k < 250) (hf : Fr W σ σ') (hw : ∀ a i, mtrD g a i → W a i → (((74 ≤ a ∧ a ≤ 78) ∧ i = 250 * g + k) ∨ ((a = 79 ∨ a = 80) ∧ 81 * (250 * g + k) ≤ i) ∨ a = 81))
    (e81 : gI σ' 81 g = (k : Int) + 1) (v0 : gI σ' 74 (250 * g + k) = mX g x) (v1 : gI σ' 75 (250 * g + k) = a1) (v2 : gI σ' 76 (250 * g + k) = a2) (v3 : gI σ' 77 (250 * g + k) = a3) (v4 : gI σ' 78 (250 * g + k) = a4) (vb : ∀ p, p < 81 → gI σ' 79 (81 * (250 * g + k) + p) = br p) (vs : ∀ p, p < 81 → gI σ' 80 (81 * (250 * g + k) + p) = st p) :
    MTr σ' g m (k + 1) c (addT T k x a1 a2 a3 a4 a5 a6 br st) := by
  obtain ⟨h1, h2, h3, h4⟩ := hM
  obtain ⟨e1, e2, e3, e4, e5, e6, e7, e8, e9⟩ := addT_k (T := T) (k := k) (a0 := x) (a1 := a1) (a2 := a2) (a3 := a3) (a4 := a4) (a5 := a5) (a6 := a6) (br := br) (st := st)
  have no : ∀ a i, mtrD g a i → ¬ (((74 ≤ a ∧ a ≤ 78) ∧ i = 250 * g + k) ∨ ((a = 79 ∨ a = 80) ∧ 81 * (250 * g + k) ≤ i) ∨ a = 81) → ¬ W a i := fun a i q1 q2 z => q2 (hw a i q1 z)
  refine ⟨by rw [hf.I (no _ _ (by unfold mtrD; omega) (by omega))]; exact h1, by rw [hf.I (no _ _ (by unfold mtrD; omega) (by omega))]; exact h2, by rw [e81]; simp, fun i hi => ?_⟩
  by_cases z : i = k
  · subst z
    unfold MRn
    rw [e1, e2, e3, e4, e5, e8, e9]
    exact ⟨v0, v1, v2, v3, v4, vb, vs⟩
  · exact ((h4 i (by omega)).kept hf (fun a q1 q2 => no _ _ (by unfold mtrD; omega) (by omega)) (fun a p q1 q2 => no _ _ (by unfold mtrD; omega) (by omega))).congr (addT_n z)
section ZR
variable {X : ZX} {d n : Nat} {σ : ZSto} {G : Int}
theorem op_let (hn : 104 ≤ n) (h : Rel σ G) (hG : G ≤ 1900000000) {p : Int} (hp : R32 p) : ZkI X M_X9_let (d + 7) n [.ref (zB X + 0), iV p] σ (fun v σ1 => ZkI X M_X10_let (d + 6) n [.ref (zB X + 73), iV p] σ1 (fun w σ2 => v = w ∧ Rel σ2 (G + 60000))) := by
  have hR := h
  obtain ⟨h1, h2, h3, t, g, m, k, pl, c, T, hGm, hB, hB2, g1, g2⟩ := h
  obtain ⟨ht, hg, p0, p1, e10, e11, e16, hpk, hW, hS, hc, hC, hM⟩ := hGm
  obtain ⟨hko1, hko2, hko3⟩ := h1.2.2.2.2
  refine w_X9_let (by omega) hp ((sp_statusOf (by omega) ht p0 hC hW e16 hpk hB hB2 (by omega) hp ⟨by omega, by omega⟩).mono ?_)
  rintro v σ1 - ⟨f1, s1, b1, c1, -⟩
  refine w_X10_let hn hp ((sm_status (ko := gI σ 0 13) hn hg (by rw [f1.I (by unfold brdW; omega)]; exact e10) (hM.kept hW.2.2.1 f1 (fun a i q z => by unfold mtrD at q; unfold brdW at z; omega)) hW (by rw [f1.I (by unfold brdW; omega)]; exact e11) hpk (by rw [f1.I (by unfold brdW; omega)]; exact hko1) hp).mono ?_)
  rintro w σ2 - ⟨f2, s2, -⟩
  refine ⟨s1.uniq s2, ?_⟩
  have f12 : Fr qW σ σ2 := (f1.mono (W' := qW) (fun a i q => Or.inr (Or.inl q))).tr (f2.mono (W' := qW) (fun a i q => by unfold staW putW at q; unfold qW; omega))
  have f12' : Fr (fun a i => brdW 41 a ∨ staW a i) σ σ2 := (f1.mono (fun a i q => Or.inl q)).tr (f2.mono (fun a i q => Or.inr q))
  exact hR.qry f12 (fun m bd hb => hb.kept f12' (fun a i q => by unfold brdW at q; unfold brdW staW putW; omega)) (b1.kept2 f2 (fun a i q => by unfold brdX at q; unfold staW putW; omega)) (by rw [f12'.I (by unfold brdW staW putW; omega)]; omega) (by rw [f2.I (by unfold staW putW; omega)]; omega)
theorem sp_moveTo (hn : 73 ≤ n) {t m k i : Nat} {c : Int} {T : ATr} {bd : Nat → Int} (ht : zIsT t) (hg : gP σ 0 0 = some t) (hC : CTr σ t m k c T) (hW : TW m k T) (hi : i < k) (hB : BOk σ 33 m bd) :
    ZkV X M_X9_moveTo (d + 3) n [.ref (zB X + 0), iV (i : Int)] σ (fun σ' => Fr (fun a j => (a = t ∧ j = 16) ∨ a = 34 ∨ a = 68) σ σ' ∧ gI σ' t 16 = (i : Int) ∧ BOk σ' 33 m (tBrd T i) ∧ ∀ p, p < 81 → gI σ' 68 p = 0) := by
  have hk2 := hW.2.2.1
  have htt : t + 13 ≤ 28 := by unfold zIsT at ht; omega
  refine w_X9_moveTo hn ⟨by omega, by omega⟩ ⟨t, hg, ht, (sp_thasY hn ht hC.2.2.1 hk2 hi).mono ?_⟩
  rintro v _ - ⟨rfl, rfl⟩
  refine ⟨fun q => by omega, fun _ => ⟨t, hg, ht, ?_⟩⟩
  rw [show (i : Int) * 3 = ((3 * i : Nat) : Int) by omega]
  have f0 : Fr (fun a j => a = t ∧ j = 16) σ (sI σ t 16 (i : Int)) := Fr.rf.sI ⟨rfl, rfl⟩
  have b0 : BOk (sI σ t 16 (i : Int)) 33 m bd := hB.kept f0 (fun a j q z => by unfold brdW at q; omega)
  have r8 := (hC.2.2.2.1 i hi).2.2.2.2.2.2.2.1
  refine (sp_load hn (Or.inl rfl) (zT_l11 ht hn) (zT_s11 ht) b0.1 (by omega) (hW.con hi) (from_ := 3 * i) (by omega) (fun w hw => by rw [f0.L (by omega)]; exact r8 w hw)).mono ?_
  rintro σ1 ⟨f1, s1⟩
  refine (sp_forgetDead hn).mono ?_
  rintro σ2 ⟨f2, z2⟩
  have F : Fr (fun a j => (a = t ∧ j = 16) ∨ a = 34 ∨ a = 68) σ σ2 := ((f0.mono (fun a i q => Or.inl q)).tr (f1.mono (fun a i q => Or.inr (Or.inl q)))).tr (f2.mono (fun a i q => Or.inr (Or.inr q)))
  refine ⟨F, by rw [f2.I (by omega), f1.I (by omega), gI_same], ?_, z2⟩
  obtain ⟨⟨a1, a2, a3, a4, a5⟩, -, -, m1, m2⟩ := hB
  refine ⟨⟨a1, a2, by rw [F.I (by omega)]; exact a3, by rw [F.I (by omega)]; exact a4, fun p hp dd hd => by rw [F.I (by omega)]; exact a5 p hp dd hd⟩, hW.con hi, fun p hp => by rw [f2.I (by omega)]; exact s1 p hp, by rw [F.I (by omega)]; exact m1, fun q => by rw [F.I (by omega), F.I (by omega), F.I (by omega)]; exact m2 q⟩
/-- the class has gone to node i, then the reference has -/
theorem Rel.goto {σ1 σ2 : ZSto} {t g m k pl i : Nat} {c : Int} {T : ATr} (hO : OthR σ) (hS : StepR σ) (hG : GmR σ t g m k pl c T) (hB2 : BPre σ 41) (g1 : gI σ 33 10 ≤ G) (g2 : gI σ 41 10 ≤ G) (hi : i < k)
    (f1 : Fr (fun a j => (a = t ∧ j = 16) ∨ a = 34 ∨ a = 68) σ σ1) (e1 : gI σ1 t 16 = (i : Int)) (b1 : BOk σ1 33 m (tBrd T i)) (z1 : ∀ p, p < 81 → gI σ1 68 p = 0)
    (f2 : Fr (fun a j => (a = 73 ∧ j = 11) ∨ a = 92) σ1 σ2) (e2 : gI σ2 73 11 = ((250 * g + i : Nat) : Int)) (z2 : ∀ p, p < 81 → gI σ2 92 p = 0) : Rel σ2 G := by
  obtain ⟨ht, hg, p0, p1, e10, e11, e16, hpk, hW, hTS, hc, hC, hM⟩ := hG
  have htt : t + 13 ≤ 28 := by unfold zIsT at ht; omega
  have ht0 : 1 ≤ t := by unfold zIsT at ht; omega
  have F : Fr (fun a j => (a = t ∧ j = 16) ∨ a = 34 ∨ a = 68 ∨ (a = 73 ∧ j = 11) ∨ a = 92) σ σ2 := (f1.mono (fun a i q => by omega)).tr (f2.mono (fun a i q => by omega))
  refine ⟨hO.kept F (fun a i q => by unfold clkD tapeD outD plcD koD at q; omega), hS.kept F (fun a i q => by unfold stpD at q; omega), fun p hp => ⟨Or.inl (by rw [f2.I (by omega)]; exact z1 p hp), by rw [z2 p hp, f2.I (by omega), z1 p hp]⟩, t, g, m, k, i, c, T, ⟨ht, hg, by rw [F.P (by omega)]; exact p0, by rw [F.P (by omega)]; exact p1, by rw [F.I (by omega)]; exact e10, e2, by rw [f2.I (by omega)]; exact e1, hi, hW, hTS, hc, hC.kept F (fun a i q => by unfold ctrD at q; omega), hM.kept hW.2.2.1 F (fun a i q => by unfold mtrD at q; omega)⟩, b1.kept f2 (fun a i q => by unfold brdW at q; omega), hB2.kept2 F (fun a i q => by unfold brdX at q; omega), by rw [F.I (by omega)]; exact g1, by rw [F.I (by omega)]; exact g2⟩
theorem op_to (hn : 104 ≤ n) (h : Rel σ G) {x : Int} (hx : R32 x) : ZkZ X M_X9_to (d + 4) n [.ref (zB X + 0), iV x] σ (fun v σ1 => ZkZ X M_X10_to (d + 2) n [.ref (zB X + 73), iV x] σ1 (fun w σ2 => v = w ∧ Rel σ2 (G + 60000))) := by
  have hR := h
  obtain ⟨h1, h2, h3, t, g, m, k, pl, c, T, hGm, hB, hB2, g1, g2⟩ := h
  obtain ⟨ht, hg, p0, p1, e10, e11, e16, hpk, hW, hS, hc, hC, hM⟩ := hGm
  have hk2 := hW.2.2.1
  have htt : t + 13 ≤ 28 := by unfold zIsT at ht; omega
  have tg : ((g : Int)).toNat = g := by omega
  refine w_X9_to (by omega) hx ⟨t, p0, ht, (sp_thas (by omega) ht hC.2.2.1 hk2 hx).mono ?_⟩
  rintro v _ - ⟨rfl, ⟨rfl, i, hi, rfl⟩ | ⟨rfl, hno⟩⟩
  · refine ⟨fun _ => (sp_moveTo (by omega) ht p0 hC hW hi hB).mono ?_, fun q => by omega⟩
    rintro σ1 ⟨f1, e1, b1, z1⟩
    refine w_X10_to hn hx ?_
    rw [f1.I (a := 73) (by omega), f1.I (a := 81) (by omega), e10, tg, hM.2.2.1]
    refine ⟨fun q => by omega, fun _ => ⟨by omega, fun _ => ⟨⟨by omega, by omega⟩, (sm_clears hn).mono ?_⟩, fun q => by omega⟩⟩
    rintro σ2 ⟨f2, z2⟩
    refine ⟨rfl, Rel.mono (Rel.goto h1 h2 ⟨ht, hg, p0, p1, e10, e11, e16, hpk, hW, hS, hc, hC, hM⟩ hB2 g1 g2 hi f1 e1 b1 z1 ((Fr.rf.sI (Or.inl ⟨rfl, rfl⟩)).tr (f2.mono (fun a i q => Or.inr q))) ?_ z2) (by omega)⟩
    rw [f2.I (by omega), gI_same]; omega
  · refine ⟨fun q => by omega, fun _ => w_X10_to hn hx ?_⟩
    rw [e10, tg, hM.2.2.1]
    have fin : (0 : Int) = 0 ∧ Rel σ (G + 60000) := ⟨rfl, hR.mono (by omega)⟩
    exact ⟨fun _ => fin, fun q => ⟨by omega, fun q2 => by omega, fun _ => fin⟩⟩
theorem op_on (hn : 104 ≤ n) (h : Rel σ G) {x : Int} (hx : R32 x) : ZkZ X M_X9_on (d + 4) n [.ref (zB X + 0), iV x] σ (fun v σ1 => ZkZ X M_X10_on (d + 2) n [.ref (zB X + 73), iV x] σ1 (fun w σ2 => v = w ∧ Rel σ2 (G + 60000))) := by
  have hR := h
  obtain ⟨h1, h2, h3, t, g, m, k, pl, c, T, hGm, hB, hB2, g1, g2⟩ := h
  have hGm' := hGm
  obtain ⟨ht, hg, p0, p1, e10, e11, e16, hpk, hW, hS, hc, hC, hM⟩ := hGm
  have hk2 := hW.2.2.1
  have htt : t + 13 ≤ 28 := by unfold zIsT at ht; omega
  have tg : ((g : Int)).toNat = g := by omega
  -- the reference's loop, at a store that agrees on the game
  have loop : ∀ (τ : ZSto) (P : Int → ZSto → Prop), (∀ a i, (a = 73 ∧ (i = 10 ∨ i = 11)) ∨ a = 81 ∨ a = 74 → gI τ a i = gI σ a i) → ((∀ q : Nat, q < k → tPar T q = (pl : Int) → ¬ ((cnt (fun j => tPar T j = (pl : Int)) q : Nat) : Int) = x) → P 0 τ) → (∀ q : Nat, q < k → tPar T q = (pl : Int) → ((cnt (fun j => tPar T j = (pl : Int)) q : Nat) : Int) = x → ZkV X M_X10_clears (d + 1) n [.ref (zB X + 73)] (sI τ 73 11 ((250 * g + q : Nat) : Int)) (fun σ24 => P 1 σ24)) →
      ZkZ X M_X10_on (d + 2) n [.ref (zB X + 73), iV x] τ P := by
    intro τ P hτ hP0 hP1
    have t10 : gI τ 73 10 = (g : Int) := by rw [hτ _ _ (by omega)]; exact e10
    have t11 : gI τ 73 11 = ((250 * g + pl : Nat) : Int) := by rw [hτ _ _ (by omega)]; exact e11
    have t81 : gI τ 81 g = (k : Int) := by rw [hτ _ _ (by omega)]; exact hM.2.2.1
    refine w_X10_on hn hx (fun y hy => ?_)
    rw [t11] at hy
    have hy2 : y = ((250 * g + (pl + 1) : Nat) : Int) := by omega
    subst hy2
    refine ⟨⟨by omega, by omega⟩, ?_⟩
    have := upto (N := k) (Q := fun j τ' => L_X10_on_9 X (d + 1) n (zpZ P) x ((cnt (fun j => tPar T j = (pl : Int)) j : Nat) : Int) ((250 * g + j : Nat) : Int) τ') (I := fun j τ' => τ = τ' ∧ ∀ q : Nat, q < j → tPar T q = (pl : Int) → ¬ ((cnt (fun j => tPar T j = (pl : Int)) q : Nat) : Int) = x) ?_ ?_ (pl + 1) τ (by omega) ⟨rfl, fun q hq z => ?_⟩
    · rw [cnt_0 (P := fun j => tPar T j = (pl : Int)) (n := pl + 1) (fun j hj z => by have := hW.parb (show j < k by omega); omega)] at this
      simpa using this
    · rintro _ ⟨rfl, hq⟩
      refine b_X10_on_9 hn ?_
      rw [t10, tg, t81]
      exact ⟨by omega, ⟨by omega, by omega⟩, fun _ => hP0 hq, fun q => by omega⟩
    · rintro j _ hj ⟨rfl, hq⟩ ih
      have r1 := (hM.2.2.2 j hj).1
      have tK : (((250 * g + j : Nat)) : Int).toNat = 250 * g + j := by omega
      have hcl := cnt_le (fun j => tPar T j = (pl : Int)) j
      have hpb := hW.parb hj
      have e1 : ((250 * g + j : Nat) : Int) + 1 = ((250 * g + (j + 1) : Nat) : Int) := by omega
      have ep : (if tPar T j < 0 then -1 else 250 * (g : Int) + tPar T j) = ((250 * g + pl : Nat) : Int) ↔ tPar T j = (pl : Int) := by split <;> omega
      refine b_X10_on_9 hn ?_
      rw [t10, tg, t81, tK, hτ 74 _ (by omega), r1, t11, e1]
      refine ⟨by omega, ⟨by omega, by omega⟩, fun q => by omega, fun _ => ⟨by omega, fun q => ⟨fun q2 => ⟨⟨by omega, by omega⟩, ⟨by omega, by omega⟩, ?_⟩, fun q2 => hP1 j hj (ep.mp q) q2⟩, fun q => ⟨⟨by omega, by omega⟩, ?_⟩⟩⟩
      · have := ih τ ⟨rfl, fun r hr z => ?_⟩
        · rw [cnt_s (P := fun j => tPar T j = (pl : Int)) (n := j) (ep.mp q)] at this
          simpa using this
        · by_cases e : r = j
          · rw [e]; exact q2
          · exact hq r (by omega) z
      · have hne : ¬ tPar T j = (pl : Int) := fun z => q (ep.mpr z)
        have := ih τ ⟨rfl, fun r hr z => ?_⟩
        · rw [cnt_n (P := fun j => tPar T j = (pl : Int)) (n := j) hne] at this
          simpa using this
        · by_cases e : r = j
          · rw [e] at z; exact absurd z hne
          · exact hq r (by omega) z
    · have := hW.parb (show q < k by omega); omega
  refine w_X9_on (by omega) hx ⟨t, p0, ht, ?_⟩
  rw [e16]
  refine (sp_nthChild (by omega) ht hC hk2 hpk hx).mono ?_
  rintro v _ - ⟨rfl, ⟨i, hi, hp, hc1, rfl⟩ | ⟨hno, rfl⟩⟩
  · refine ⟨fun _ => (sp_moveTo (by omega) ht p0 hC hW hi hB).mono ?_, fun q => by omega⟩
    rintro σ1 ⟨f1, e1, b1, z1⟩
    refine loop σ1 _ (fun a j q => f1.I (by omega)) (fun hno => absurd hc1 (hno i hi hp)) (fun j hj hjp hjc => (sm_clears hn).mono ?_)
    rintro σ2 ⟨f2, z2⟩
    have hji : j = i := by
      have h1 : ¬ i < j := fun z => by
        have a1 := cnt_s (P := fun j => tPar T j = (pl : Int)) hp
        have a2 : cnt (fun j => tPar T j = (pl : Int)) (i + 1) ≤ cnt (fun j => tPar T j = (pl : Int)) j := cnt_up (by omega)
        omega
      have h2 : ¬ j < i := fun z => by
        have a1 := cnt_s (P := fun j => tPar T j = (pl : Int)) hjp
        have a2 : cnt (fun j => tPar T j = (pl : Int)) (j + 1) ≤ cnt (fun j => tPar T j = (pl : Int)) i := cnt_up (by omega)
        omega
      omega
    subst hji
    refine ⟨rfl, Rel.mono (Rel.goto h1 h2 hGm' hB2 g1 g2 hi f1 e1 b1 z1 ((Fr.rf.sI (Or.inl ⟨rfl, rfl⟩)).tr (f2.mono (fun a i q => Or.inr q))) ?_ z2) (by omega)⟩
    rw [f2.I (by omega), gI_same]
  · refine ⟨fun q => by omega, fun _ => loop σ _ (fun _ _ _ => rfl) (fun _ => ⟨rfl, hR.mono (by omega)⟩) (fun j hj hjp hjc => absurd hjc (hno j hj hjp))⟩
end ZR
