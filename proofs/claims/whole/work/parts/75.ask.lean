theorem BOk.gat {σ σ1 : ZSto} {o m : Nat} {bd : Nat → Int} (h : BOk σ o m bd) (f : Fr (gatW o) σ σ1) (hm : BMk σ1 o) : BOk σ1 o m bd := by
  obtain ⟨⟨a1, a2, a3, a4, a5⟩, hc, hs, -⟩ := h
  exact ⟨⟨a1, a2, by rw [f.I (by unfold gatW; omega)]; exact a3, by rw [f.I (by unfold gatW; omega)]; exact a4, fun p hp dd hd => by rw [f.I (by unfold gatW; omega)]; exact a5 p hp dd hd⟩, hc, fun p hp => by rw [f.I (by unfold gatW; omega)]; exact hs p hp, hm⟩
section ZR
variable {X : ZX} {d n : Nat} {σ : ZSto} {G : Int}
def shwW (a i : Nat) : Prop := (a = 84 ∧ i < 81) ∨ (a = 73 ∧ i = 13)
theorem sm_shows (hn : 104 ≤ n) {g m k pl : Nat} {c : Int} {T : ATr} (hg : g < 2) (e10 : gI σ 73 10 = (g : Int)) (e11 : gI σ 73 11 = ((250 * g + pl : Nat) : Int)) (hM : MTr σ g m k c T) (hW : TW m k T) (hpk : pl < k) :
    ZkZ X M_X10_shows (d + 2) n [.ref (zB X + 73)] σ (fun v σ' => v = 1 ∧ Fr shwW σ σ' ∧ WAll σ' (tBrd T pl) ∧ gI σ' 73 13 = (m : Int)) := by
  have hk2 := hW.2.2.1
  have tg : ((g : Int)).toNat = g := by omega
  refine w_X10_shows hn ?_
  rw [e10, e11, tg, hM.1, ← mX_p]
  have f0 : Fr shwW σ (sI σ 73 13 (m : Int)) := Fr.rf.sI (Or.inr ⟨rfl, rfl⟩)
  refine ⟨by omega, (sm_loadT hn hg (fun i hi => (hM.2.2.2 i hi).kept f0 (fun a h1 h2 q => by unfold shwW at q; omega) (fun a p h1 h2 q => by unfold shwW at q; omega)) hW (by omega)).mono ?_⟩
  rintro σ1 ⟨f1, w1⟩
  rw [bB_p] at w1
  exact ⟨rfl, f0.tr (f1.mono (fun a i q => Or.inl q)), w1, by rw [f1.I (by omega)]; exact gI_same _ _ _ _⟩
theorem sm_isPoint (hn : 104 ≤ n) {m : Nat} {x : Int} (h9 : m ≤ 9) (hm : gI σ 73 13 = (m : Int)) (hx : R32 x) : ZkZ X M_X10_isPoint (d + 1) n [.ref (zB X + 73), iV x] σ (fun v σ' => σ = σ' ∧ ((v = 1 ∧ 0 ≤ x ∧ x < (m * m : Nat)) ∨ (v = 0 ∧ ¬ (0 ≤ x ∧ x < (m * m : Nat))))) := by
  have hN := sq_le h9
  refine w_X10_isPoint hn hx ?_
  rw [hm, show (m : Int) * (m : Int) = ((m * m : Nat) : Int) by simp]
  exact ⟨fun q => ⟨rfl, Or.inr ⟨rfl, by omega⟩⟩, fun q => ⟨⟨by omega, by omega⟩, fun q2 => ⟨rfl, Or.inr ⟨rfl, by omega⟩⟩, fun q2 => ⟨rfl, Or.inl ⟨rfl, by omega, by omega⟩⟩⟩⟩
theorem sm_isStone (hn : 104 ≤ n) {g m k pl : Nat} {c x : Int} {T : ATr} (hg : g < 2) (e10 : gI σ 73 10 = (g : Int)) (e11 : gI σ 73 11 = ((250 * g + pl : Nat) : Int)) (hM : MTr σ g m k c T) (hW : TW m k T) (hpk : pl < k) (hx : R32 x) :
    ZkZ X M_X10_isStone (d + 3) n [.ref (zB X + 73), iV x] σ (fun v σ' => Fr shwW σ σ' ∧ WAll σ' (tBrd T pl) ∧ gI σ' 73 13 = (m : Int) ∧ ((v = 1 ∧ 0 ≤ x ∧ x < (m * m : Nat) ∧ tBrd T pl x.toNat ≠ 0) ∨ (v = 0 ∧ ¬ (0 ≤ x ∧ x < (m * m : Nat) ∧ tBrd T pl x.toNat ≠ 0)))) := by
  have hN := sq_le hW.2.1
  refine w_X10_isStone hn hx ((sm_shows hn hg e10 e11 hM hW hpk).mono ?_)
  rintro v σ1 - ⟨rfl, f1, w1, m1⟩
  refine ⟨fun q => by omega, fun _ => (sm_isPoint hn hW.2.1 m1 hx).mono ?_⟩
  rintro v _ - ⟨rfl, ⟨rfl, hv⟩ | ⟨rfl, hv⟩⟩
  · rw [w1 x.toNat (by omega)]
    exact ⟨fun q => by omega, fun _ => ⟨by omega, fun q => ⟨f1, w1, m1, Or.inr ⟨rfl, fun z => z.2.2 q⟩⟩, fun q => ⟨f1, w1, m1, Or.inl ⟨rfl, hv.1, hv.2, q⟩⟩⟩⟩
  · exact ⟨fun _ => ⟨f1, w1, m1, Or.inr ⟨rfl, fun z => hv ⟨z.1, z.2.1⟩⟩⟩, fun q => by omega⟩
/-- a question that changes the reference's work row alone -/
theorem Rel.shw {σ' : ZSto} (h : Rel σ G) (hf : Fr (fun a i => shwW a i ∨ fldW a i) σ σ') : Rel σ' (G + 60000) := by
  obtain ⟨_, _, _, t, g, m, k, pl, c, T, hGm, hB, hB2, g1, g2⟩ := id h
  refine h.qry (hf.mono (fun a i q => by unfold shwW fldW at q; unfold qW; omega)) (fun m bd hb => hb.kept hf (fun a i q => by unfold brdW at q; unfold shwW fldW; omega)) (hB2.kept2 hf (fun a i q => by unfold brdX at q; unfold shwW fldW; omega)) (by rw [hf.I (by unfold shwW fldW; omega)]; omega) (by rw [hf.I (by unfold shwW fldW; omega)]; omega)
theorem op_at (hn : 104 ≤ n) (h : Rel σ G) {x : Int} (hx : R32 x) : ZkI X M_X9_at (d + 2) n [.ref (zB X + 0), iV x] σ (fun v σ1 => ZkI X M_X10_at (d + 3) n [.ref (zB X + 73), iV x] σ1 (fun w σ2 => v = w ∧ Rel σ2 (G + 60000))) := by
  have hR := h
  have hn' : 73 ≤ n := by omega
  obtain ⟨h1, h2, h3, t, g, m, k, pl, c, T, hGm, hB, hB2, g1, g2⟩ := h
  obtain ⟨ht, hg, p0, p1, e10, e11, e16, hpk, hW, hTS, hc, hC, hM⟩ := hGm
  have hN := sq_le hW.2.1
  refine w_X9_at hn' hx ((sp_contentOf hn' (Or.inl rfl) hB.1 hB.2.2.1 hx).mono ?_)
  rintro v _ - ⟨rfl, hv⟩
  refine w_X10_at hn hx ((sm_shows hn hg e10 e11 hM hW hpk).mono ?_)
  rintro w σ1 - ⟨rfl, f1, w1, m1⟩
  have R1 := hR.shw (f1.mono (fun a i q => Or.inl q))
  refine ⟨fun q => by omega, fun _ => (sm_isPoint hn hW.2.1 m1 hx).mono ?_⟩
  rintro w _ - ⟨rfl, ⟨rfl, hw⟩ | ⟨rfl, hw⟩⟩
  · rw [if_pos hw] at hv
    exact ⟨fun q => by omega, fun _ => ⟨by omega, by rw [hv, w1 _ (by omega)], R1⟩⟩
  · rw [if_neg hw] at hv
    exact ⟨fun _ => ⟨hv, R1⟩, fun q => by omega⟩
theorem Fr.gatq {σ σ1 σ2 : ZSto} (f1 : Fr (gatW 33) σ σ1) (f2 : Fr (fun a i => shwW a i ∨ fldW a i) σ1 σ2) : Fr qW σ σ2 := (f1.mono (W' := qW) (fun a i q => Or.inl q)).tr (f2.mono (W' := qW) (fun a i q => by unfold shwW fldW at q; unfold qW; omega))
/-- gather on the class's board at the place, then questions of the reference -/
theorem Rel.ask {σ1 σ2 : ZSto} (h : Rel σ G) (f1 : Fr (gatW 33) σ σ1) (hB1 : ∀ m bd, BOk σ 33 m bd → BOk σ1 33 m bd) (hg1 : gI σ1 33 10 ≤ gI σ 33 10 + 50000) (f2 : Fr (fun a i => shwW a i ∨ fldW a i) σ1 σ2) : Rel σ2 (G + 60000) := by
  obtain ⟨_, _, _, t, g, m, k, pl, c, T, hGm, hB, hB2, g1, g2⟩ := id h
  refine h.qry (Fr.gatq f1 f2) (fun m bd hb => (hB1 m bd hb).kept f2 (fun a i q => by unfold brdW at q; unfold shwW fldW; omega)) ((hB2.kept2 f1 (fun a i q => by unfold brdX at q; unfold gatW; omega)).kept2 f2 (fun a i q => by unfold brdX at q; unfold shwW fldW; omega)) (by rw [f2.I (by unfold shwW fldW; omega)]; omega) (by rw [f2.I (by unfold shwW fldW; omega), f1.I (by unfold gatW; omega)]; omega)
theorem nthm_loop (hn : 104 ≤ n) {m : Nat} {i : Int} {D : Nat → Prop} {P : Int → ZSto → Prop} (h9 : m ≤ 9) (hm : gI σ 73 13 = (m : Int)) (hi : R32 i) (hD : ∀ q, q < 81 → (gI σ 86 q = 1 ↔ D q)) (hb : ∀ q, q < 81 → gI σ 86 q = 0 ∨ gI σ 86 q = 1) (hP : ∀ v, Nth D (m * m) i v → P v σ) : L_X10_liberty_22 X d n (zpI P) i 0 0 σ := by
  have hN := sq_le h9
  have mm : (m : Int) * (m : Int) = ((m * m : Nat) : Int) := by simp
  have := upto (N := m * m) (Q := fun j τ => L_X10_liberty_22 X d n (zpI P) i (cnt D j : Nat) (j : Int) τ) (I := fun j τ => σ = τ ∧ ∀ q : Nat, q < j → D q → ¬ ((cnt D q : Nat) : Int) = i) ?_ ?_ 0 σ (by omega) ⟨rfl, fun q hq => by omega⟩
  · simpa [cnt] using this
  · rintro _ ⟨rfl, hq⟩
    refine b_X10_liberty_22 hn ?_
    rw [hm, mm]
    exact ⟨⟨by omega, by omega⟩, fun _ => hP _ (Or.inr ⟨hq, rfl⟩), fun q => by omega⟩
  · rintro j _ hj ⟨rfl, hq⟩ ih
    have tj : ((j : Int)).toNat = j := by omega
    have hcl := cnt_le D j
    refine b_X10_liberty_22 hn ?_
    rw [hm, mm, tj]
    have hDj := hD j (by omega)
    have hbj := hb j (by omega)
    refine ⟨⟨by omega, by omega⟩, fun q => by omega, fun _ => ⟨by omega, fun z => ⟨fun z2 => ⟨⟨by omega, by omega⟩, ⟨by omega, by omega⟩, ?_⟩, fun z2 => hP _ (Or.inl ⟨j, hj, hDj.mp (by omega), z2, rfl⟩)⟩, fun z => ⟨⟨by omega, by omega⟩, ?_⟩⟩⟩
    · have dj : D j := hDj.mp (by omega)
      have := ih σ ⟨rfl, fun q hq2 hqD => ?_⟩
      · rw [cnt_s (P := D) (n := j) dj] at this
        simpa using this
      · by_cases e : q = j
        · rw [e]; exact z2
        · exact hq q (by omega) hqD
    · have dj : ¬ D j := fun z3 => by have := hDj.mpr z3; omega
      have := ih σ ⟨rfl, fun q hq2 hqD => ?_⟩
      · rw [cnt_n (P := D) (n := j) dj] at this
        simpa using this
      · by_cases e : q = j
        · rw [e] at hqD; exact absurd hqD dj
        · exact hq q (by omega) hqD
theorem nth_neg {P : Nat → Prop} {N : Nat} {i v : Int} (h : Nth P N i v) (hi : i < 0) : v = -1 := by
  rcases h with ⟨q, _, _, h, _⟩ | ⟨_, h⟩
  · omega
  · exact h
theorem op_liberty (hn : 104 ≤ n) (h : Rel σ G) (hG : G ≤ 1900000000) {x i : Int} (hx : R32 x) (hi : R32 i) : ZkI X M_X9_liberty (d + 3) n [.ref (zB X + 0), iV x, iV i] σ (fun v σ1 => ZkI X M_X10_liberty (d + 4) n [.ref (zB X + 73), iV x, iV i] σ1 (fun w σ2 => v = w ∧ Rel σ2 (G + 60000))) := by
  have hR := h
  have hn' : 73 ≤ n := by omega
  obtain ⟨h1, h2, h3, t, g, m, k, pl, c, T, hGm, hB, hB2, g1, g2⟩ := h
  obtain ⟨ht, hg, p0, p1, e10, e11, e16, hpk, hW, hTS, hc, hC, hM⟩ := hGm
  have hN := sq_le hW.2.1
  -- the reference
  have ref : ∀ (τ : ZSto) (P : Int → ZSto → Prop), Fr (gatW 33) σ τ → (∀ σ', Fr (fun a i => shwW a i ∨ fldW a i) τ σ' → ¬ (0 ≤ x ∧ x < (m * m : Nat) ∧ tBrd T pl x.toNat ≠ 0) → P (-1) σ') → (∀ v σ', Fr (fun a i => shwW a i ∨ fldW a i) τ σ' → (0 ≤ x ∧ x < (m * m : Nat) ∧ tBrd T pl x.toNat ≠ 0) → Nth (Lib m (tBrd T pl) x.toNat) (m * m) i v → P v σ') → ZkI X M_X10_liberty (d + 4) n [.ref (zB X + 73), iV x, iV i] τ P := by
    intro τ P hf hP0 hP1
    refine w_X10_liberty hn hx hi ((sm_isStone hn hg (by rw [hf.I (by unfold gatW; omega)]; exact e10) (by rw [hf.I (by unfold gatW; omega)]; exact e11) (hM.kept hW.2.2.1 hf (fun a i q => by unfold mtrD at q; unfold gatW; omega)) hW hpk hx).mono ?_)
    rintro v σ1 - ⟨f1, w1, m1, ⟨rfl, hv⟩ | ⟨rfl, hv⟩⟩
    · refine ⟨fun _ => ?_, fun q => by omega⟩
      obtain ⟨xn, rfl⟩ : ∃ xn : Nat, x = (xn : Int) := ⟨x.toNat, by omega⟩
      have txn : ((xn : Int)).toNat = xn := by omega
      rw [txn] at hP1 hP0 hv
      have hcb := hW.con hpk xn (by omega)
      refine (sm_flood hn hW.1 hW.2.1 m1 (fun p hp => w1 p (by omega)) (by omega) hv.2.2 ⟨by omega, by omega⟩).mono ?_
      rintro v2 σ2 - ⟨hF, -⟩
      exact nthm_loop hn hW.2.1 (by rw [hF.1.I (by unfold fldW; omega)]; exact m1) hi hF.2.2.2 (fun q hq => (hF.2.1 q hq).2) (fun v hv2 => hP1 v σ2 ((f1.mono (fun a i q => Or.inl q)).tr (hF.1.mono (fun a i q => Or.inr q))) hv hv2)
    · exact ⟨fun q => by omega, fun _ => hP0 σ1 (f1.mono (fun a i q => Or.inl q)) hv⟩
  refine w_X9_liberty hn' hx hi ⟨fun q => ?_, fun q => (sp_hasStone hn' (Or.inl rfl) hB.1 hB.2.1 hB.2.2.1 hx).mono ?_⟩
  · exact ref σ _ Fr.rf (fun σ' f _ => ⟨rfl, hR.shw f⟩) (fun v σ' f _ hv => ⟨(nth_neg hv q).symm, hR.shw f⟩)
  · rintro v _ - ⟨rfl, ⟨rfl, hv⟩ | ⟨rfl, hv⟩⟩
    · refine ⟨fun _ => ?_, fun q => by omega⟩
      obtain ⟨xn, exn⟩ : ∃ xn : Nat, x = (xn : Int) := ⟨x.toNat, by omega⟩
      have txn : x.toNat = xn := by omega
      rw [txn] at hv
      have hlt : xn < m * m := by omega
      rw [exn]
      refine (sp_gatherChain hn' (Or.inl rfl) hB hlt hv.2.2 (by omega)).mono ?_
      intro σ1 hG1
      refine (sp_nthLiberty hn' (Or.inl rfl) (hG1.geo hB.1) (hG1.st hB.2.2.1) hG1 hv.2.2 hi (by omega)).mono ?_
      rintro v _ - ⟨rfl, hv1⟩
      rw [← exn]
      refine ref σ1 _ hG1.1 (fun σ' f hno => absurd ⟨hv.1, hv.2.1, by rw [txn]; exact hv.2.2⟩ hno) (fun w σ' f _ hw => ⟨by rw [txn] at hw; exact hv1.uniq hw, ?_⟩)
      exact hR.ask hG1.1 (fun m bd hb => hb.gat hG1.1 (hG1.mk hb.2.2.2)) (by rw [hG1.2.1]; omega) f
    · exact ⟨fun q => by omega, fun _ => ref σ _ Fr.rf (fun σ' f _ => ⟨rfl, hR.shw f⟩) (fun v σ' f hy _ => absurd hy hv)⟩
end ZR
