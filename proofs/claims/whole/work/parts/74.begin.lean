theorem NW_root {m : Nat} {T : ATr} {tn : Int} {br st : Nat → Int} (htn : tn = 1 ∨ tn = 2) (hbr : BCon m br) (hpd : Pad m br) (hst : ∀ p, 0 ≤ st p ∧ st p ≤ 3) (hsp : ∀ p, m * m ≤ p → st p = 3) (ht : tn = 2 ↔ ((∃ p, p < 81 ∧ st p = 1) ∧ ¬ ∃ p, p < 81 ∧ st p = 2)) :
    NW m (addT T 0 (-1) 0 0 (-1) 0 tn 0 br st) 0 := by
  obtain ⟨e1, e2, e3, e4, e5, e6, e7, e8, e9⟩ := addT_k (T := T) (k := 0) (a0 := -1) (a1 := 0) (a2 := 0) (a3 := -1) (a4 := 0) (a5 := tn) (a6 := 0) (br := br) (st := st)
  unfold NW
  rw [e1, e2, e3, e4, e5, e6, e7, e8, e9]
  exact ⟨fun _ => rfl, fun q => by omega, Or.inl rfl, fun _ => ⟨rfl, rfl⟩, fun q => absurd rfl q, fun q => by omega, fun q => by omega, ⟨by omega, by omega⟩, htn, fun q => absurd rfl q, fun _ q => by omega, fun _ _ => ht, fun _ => rfl, fun q => by omega, ⟨by omega, by omega⟩, hbr, hpd, hst, hsp⟩
section ZR
variable {X : ZX} {d n : Nat} {σ : ZSto} {G : Int}
theorem sp_clear (hn : 73 ≤ n) {t m : Nat} {c : Int} (T : ATr) (ht : zIsT t) (hm : m ≤ 9) (hc : -200 ≤ c ∧ c ≤ 200) : ZkV X M_X7_clear (d + 1) n [.ref (zB X + t), iV (m : Int), iV c] σ (fun σ' => Fr (fun a i => a = t ∧ 13 ≤ i ∧ i ≤ 16) σ σ' ∧ CTr σ' t m 0 c T ∧ gI σ' t 16 = 0) := by
  refine w_X7_clear hn ht ⟨by omega, by omega⟩ ⟨by omega, by omega⟩ ⟨?_, ⟨?_, ?_, ?_, fun i hi => by omega, fun i hi => by omega⟩, ?_⟩
  · refine (((Fr.rf.sI ?_).sI ?_).sI ?_).sI ?_ <;> omega
  · simp [gI_if]
  · simp [gI_if]
  · simp [gI_if]
  · simp [gI_if]
theorem sm_empties (hn : 104 ≤ n) {g m : Nat} {c : Int} (T : ATr) (hg : g < 2) (hm : m ≤ 9) (hc : -200 ≤ c ∧ c ≤ 200) : ZkV X M_X10_empties (d + 1) n [.ref (zB X + 73), iV (g : Int), iV (m : Int), iV c] σ (fun σ' => Fr (fun a i => (a = 81 ∨ a = 82 ∨ a = 83) ∧ i = g) σ σ' ∧ MTr σ' g m 0 c T) := by
  have tg : ((g : Int)).toNat = g := by omega
  refine w_X10_empties hn ⟨by omega, by omega⟩ ⟨by omega, by omega⟩ ⟨by omega, by omega⟩ ⟨by omega, ?_⟩
  rw [tg]
  refine ⟨?_, ?_, ?_, ?_, fun i hi => by omega⟩
  · refine ((Fr.rf.sI ?_).sI ?_).sI ?_ <;> omega
  · simp [gI_if]
  · simp [gI_if]
  · simp [gI_if]
theorem TW.zero {m : Nat} (T : ATr) (h3 : 3 ≤ m) (h9 : m ≤ 9) : TW m 0 T := ⟨h3, h9, by omega, fun i hi => by omega⟩
/-- the root of a new game -/
def rootT (T : ATr) : ATr := addT T 0 (-1) 0 0 (-1) 0 1 0 (fun _ => 0) (fun _ => 3)
theorem rootT_w {m : Nat} {T : ATr} (h3 : 3 ≤ m) (h9 : m ≤ 9) : TW m 1 (rootT T) :=
  (TW.zero T h3 h9).add (by omega) (NW_root (Or.inl rfl) (fun _ _ => Or.inl rfl) (fun _ _ => rfl) (fun _ => (by show (0 : Int) ≤ 3 ∧ (3 : Int) ≤ 3; omega)) (fun _ _ => rfl) ⟨fun q => by omega, fun q => by obtain ⟨⟨p, _, h⟩, _⟩ := q; exact absurd h (by decide)⟩)
theorem rootT_s {T : ATr} : TSum (rootT T) 1 := by
  refine TSum.add (k := 0) ?_
  show 4 * 0 ≤ 1500
  omega
theorem sp_startGame (hn : 73 ≤ n) {t m : Nat} {c : Int} (T : ATr) (ht : zIsT t) (hg : gP σ 0 0 = some t) (hB : BPre σ 33) (h3 : 3 ≤ m) (h9 : m ≤ 9) (hc : -200 ≤ c ∧ c ≤ 200) :
    ZkV X M_X9_startGame (d + 4) n [.ref (zB X + 0), iV (m : Int), iV c] σ (fun σ' => Fr (fun a j => (t ≤ a ∧ a ≤ t + 13) ∨ a = 34 ∨ a = 35 ∨ (a = 33 ∧ (j = 7 ∨ j = 8)) ∨ a = 68) σ σ' ∧ CTr σ' t m 1 c (rootT T) ∧ gI σ' t 16 = 0 ∧ BOk σ' 33 m (fun _ => 0) ∧ ∀ p, p < 81 → gI σ' 68 p = 0) := by
  have htt : t + 13 ≤ 28 := by unfold zIsT at ht; omega
  have ht1 : 1 ≤ t := by unfold zIsT at ht; omega
  refine w_X9_startGame hn ⟨by omega, by omega⟩ ⟨by omega, by omega⟩ ⟨t, hg, ht, (sp_clear hn T ht h9 hc).mono ?_⟩
  rintro σ1 ⟨f1, hC1, e1⟩
  refine (sp_shape hn (Or.inl rfl) h3 h9 (hB.kept2 f1 (fun a i q => by unfold brdX at q; omega))).mono ?_
  rintro σ2 ⟨f2, b2, -⟩
  have hC2 : CTr σ2 t m 0 c T := hC1.kept f2 (fun a i q z => by unfold ctrD at q; omega)
  have g2 : gP σ2 0 0 = some t := by rw [f2.P (by omega), f1.P (by omega)]; exact hg
  refine ⟨t, g2, ht, (sp_addSets hn ht (Or.inl rfl) hC2 (TW.zero T h3 h9) b2 (by omega) (Or.inl ⟨rfl, rfl⟩) (Or.inl rfl)).mono ?_⟩
  rintro v σ3 - ⟨-, f3, hC3⟩
  have hC3 : CTr σ3 t m 1 c (rootT T) := hC3
  have b3 := b2.kept f3 (fun a i q z => by unfold brdW at q; omega)
  refine (sp_moveTo hn ht (by rw [f3.P (by omega)]; exact g2) hC3 (rootT_w h3 h9) (i := 0) (by omega) b3).mono ?_
  rintro σ4 ⟨f4, e4, b4, z4⟩
  have eb : tBrd (rootT T) 0 = fun _ => 0 := addT_k.2.2.2.2.2.2.2.1
  rw [eb] at b4
  exact ⟨(((f1.mono (fun a i q => by omega)).tr (f2.mono (fun a i q => by omega))).tr (f3.mono (fun a i q => by omega))).tr (f4.mono (fun a i q => by omega)), hC3.kept f4 (fun a i q z => by unfold ctrD at q; omega), e4, b4, z4⟩
/-- the reference's empties and opens -/
theorem sm_opens (hn : 104 ≤ n) {g m : Nat} {c : Int} (T : ATr) (hg : g < 2) (hM : MTr σ g m 0 c T) : ZkV X M_X10_opens (d + 3) n [.ref (zB X + 73), iV (g : Int)] σ (fun σ' => Fr (fun a i => mtrD g a i ∨ a = 84) σ σ' ∧ MTr σ' g m 1 c (rootT T)) := by
  refine w_X10_opens hn ⟨by omega, by omega⟩ ((sm_comes hn hg hM.2.2.1 (by omega) ⟨by omega, by omega⟩).mono ?_)
  rintro v σ1 - ⟨rfl, f1, w0, w1, w2, w3, w4, ws, w81⟩
  refine (sm_settles hn (K := 250 * g + 0) (by omega) ⟨by omega, by omega⟩ (by omega) w0).mono ?_
  rintro σ2 ⟨f2, w2'⟩
  have F : Fr (fun a i => ((74 ≤ a ∧ a ≤ 78) ∧ i = 250 * g) ∨ ((a = 79 ∨ a = 80) ∧ 81 * (250 * g) ≤ i ∧ i < 81 * (250 * g) + 81) ∨ (a = 81 ∧ i = g) ∨ a = 84) σ σ2 := (f1.mono (fun a i q => by omega)).tr (f2.mono (fun a i q => by omega))
  refine ⟨F.mono (fun a i q => by unfold mtrD; omega), ?_⟩
  refine hM.add (k := 0) (x := -1) (by omega) F (fun a i q z => by unfold mtrD at q; omega) ?_ ?_ ?_ ?_ ?_ ?_ (fun p hp => ?_) (fun p hp => ?_)
  · rw [f2.I (by omega)]; exact w81
  · rw [f2.I (by omega)]; exact w0
  · rw [f2.I (by omega)]; exact w1
  · rw [f2.I (by omega)]; exact w2
  · rw [f2.I (by omega)]; exact w3
  · rw [f2.I (by omega)]; exact w4
  · rw [w2' p hp, ws p hp]; rfl
  · rw [f2.I (by omega)]; exact ws p hp
theorem op_begin (hn : 104 ≤ n) (h : Rel σ G) {x y : Int} (hx : R32 x) (hy : R32 y) : ZkZ X M_X9_begin (d + 5) n [.ref (zB X + 0), iV x, iV y] σ (fun v σ1 => ZkZ X M_X10_begin (d + 4) n [.ref (zB X + 73), iV x, iV y] σ1 (fun w σ2 => v = w ∧ Rel σ2 (G + 60000))) := by
  have hR := h
  have hn' : 73 ≤ n := by omega
  obtain ⟨h1, h2, h3, t, g, m, k, pl, c, T, hGm, hB, hB2, g1, g2⟩ := h
  obtain ⟨ht, hg, p0, p1, e10, e11, e16, hpk, hW, hTS, hc, hC, hM⟩ := hGm
  have htt : t + 13 ≤ 28 := by unfold zIsT at ht; omega
  have ht1 : 1 ≤ t := by unfold zIsT at ht; omega
  have tg : ((g : Int)).toNat = g := by omega
  have fin : (0 : Int) = 0 ∧ Rel σ (G + 60000) := ⟨rfl, hR.mono (by omega)⟩
  have bad : ¬ ((3 ≤ x ∧ x ≤ 9) ∧ -200 ≤ y ∧ y ≤ 200) → ZkZ X M_X10_begin (d + 4) n [.ref (zB X + 73), iV x, iV y] σ (fun w σ2 => (0 : Int) = w ∧ Rel σ2 (G + 60000)) := fun hb => w_X10_begin hn hx hy ⟨fun _ => fin, fun _ => ⟨fun _ => fin, fun _ => ⟨fun _ => fin, fun _ => ⟨fun q => by omega, fun _ => fin⟩⟩⟩⟩
  refine w_X9_begin hn' hx hy ((sp_isSize hn' hx).mono ?_)
  rintro v _ - ⟨rfl, hv⟩
  refine ⟨fun q => bad (by split at hv <;> omega), fun q => (sp_isKomi hn' hy).mono ?_⟩
  rintro v2 _ - ⟨rfl, hv2⟩
  have hxr : 3 ≤ x ∧ x ≤ 9 := by split at hv <;> omega
  refine ⟨fun q2 => ?_, fun q2 => bad (by split at hv2 <;> omega)⟩
  have hyr : -200 ≤ y ∧ y ≤ 200 := by split at hv2 <;> omega
  obtain ⟨m', rfl⟩ : ∃ m' : Nat, x = (m' : Int) := ⟨x.toNat, by omega⟩
  refine (sp_startGame hn' T ht p0 hB.pre (by omega) (by omega) hyr).mono ?_
  rintro σ1 ⟨f1, hC1, e1, b1, z1⟩
  refine w_X10_begin hn hx hy ⟨fun q => by omega, fun _ => ⟨fun q => by omega, fun _ => ⟨fun q => by omega, fun _ => ⟨fun _ => ?_, fun q => by omega⟩⟩⟩⟩
  have u10 : gI σ1 73 10 = (g : Int) := by rw [f1.I (by omega)]; exact e10
  rw [u10]
  refine (sm_empties hn T hg (by omega) hyr).mono ?_
  rintro σ2 ⟨f2, hM2⟩
  rw [f2.I (a := 73) (by omega), u10]
  refine (sm_opens hn T hg hM2).mono ?_
  rintro σ3 ⟨f3, hM3⟩
  rw [f3.I (a := 73) (by unfold mtrD; omega), f2.I (a := 73) (by omega), u10]
  refine ⟨⟨by omega, by omega⟩, (sm_clears hn).mono ?_⟩
  rintro σ4 ⟨f4, z4⟩
  have F14 : Fr modW σ1 σ4 := (((f2.mono (fun a i q => by unfold modW; omega)).tr (f3.mono (fun a i q => by unfold mtrD at q; unfold modW; omega))).sI (by unfold modW; omega)).tr (f4.mono (fun a i q => by unfold modW; omega))
  have F34 : Fr (fun a i => (a = 73 ∧ i = 11) ∨ a = 92) σ3 σ4 := (Fr.rf.sI (by omega)).tr (f4.mono (fun a i q => by omega))
  have eb : tBrd (rootT T) 0 = fun _ => 0 := addT_k.2.2.2.2.2.2.2.1
  refine ⟨rfl, Rel.new h1 h2 ht hg p0 p1 e10 (show 0 < 1 by omega) (rootT_w (T := T) (by omega) (by omega)) rootT_s hyr (f1.mono (fun a i q => by unfold clsW; omega)) hC1 (by rw [e1]; rfl) (by rw [eb]; exact b1) (hB2.kept2 f1 (fun a i q => by unfold brdX at q; omega)) (by rw [f1.I (by omega)]; omega) (by rw [f1.I (by omega)]; omega) z1 F14 (hM3.kept (by omega) F34 (fun a i q => by unfold mtrD at q; omega)) ?_ z4⟩
  rw [f4.I (by omega), gI_same]; omega
/-- how far back, and to where -/
def BackR (T : ATr) (x : Int) : Nat → Nat → Int → Nat × Int
  | 0, i, w => (i, w)
  | f + 1, i, w => if x ≤ w ∨ tPar T i < 0 then (i, w) else BackR T x f (tPar T i).toNat (w + 1)
theorem backR_i {m k : Nat} {T : ATr} (hW : TW m k T) (x : Int) : ∀ (f i : Nat) (w : Int), i < k → (BackR T x f i w).1 < k := by
  intro f
  induction f with
  | zero => intro i w hi; exact hi
  | succ f ih =>
    intro i w hi
    show (if x ≤ w ∨ tPar T i < 0 then (i, w) else BackR T x f (tPar T i).toNat (w + 1)).1 < k
    have := hW.parb hi
    split
    · exact hi
    · exact ih _ _ (by omega)
theorem backR_0 {T : ATr} (x : Int) : ∀ (f i : Nat) (w : Int), w ≤ (BackR T x f i w).2 ∧ ((BackR T x f i w).2 = w → (BackR T x f i w).1 = i) := by
  intro f
  induction f with
  | zero => intro i w; exact ⟨Int.le_refl _, fun _ => rfl⟩
  | succ f ih =>
    intro i w
    show w ≤ (if x ≤ w ∨ tPar T i < 0 then (i, w) else BackR T x f (tPar T i).toNat (w + 1)).2 ∧ ((if x ≤ w ∨ tPar T i < 0 then (i, w) else BackR T x f (tPar T i).toNat (w + 1)).2 = w → (if x ≤ w ∨ tPar T i < 0 then (i, w) else BackR T x f (tPar T i).toNat (w + 1)).1 = i)
    split
    · exact ⟨Int.le_refl _, fun _ => rfl⟩
    · have := (ih (tPar T i).toNat (w + 1)).1
      exact ⟨by omega, fun q => by omega⟩
theorem backc_loop (hn : 73 ≤ n) {t m k : Nat} {c x : Int} {T : ATr} {P : Int → ZSto → Prop} (ht : zIsT t) (hg : gP σ 0 0 = some t) (hC : CTr σ t m k c T) (hW : TW m k T) :
    ∀ (f i w : Nat), i < k → i < f → w + i < 250 → ((BackR T x f i (w : Int)).2 ≤ 0 → P (BackR T x f i (w : Int)).2 σ) → (¬ (BackR T x f i (w : Int)).2 ≤ 0 → ZkV X M_X9_moveTo (d + 2) n [.ref (zB X + 0), iV (((BackR T x f i (w : Int)).1 : Nat) : Int)] σ (fun σ9 => P (BackR T x f i (w : Int)).2 σ9)) → L_X9_back_16 X (d + 2) n (zpI P) x (i : Int) (w : Int) σ := by
  have hk2 := hW.2.2.1
  intro f
  induction f with
  | zero => intro i w hi hf; omega
  | succ f ih =>
    intro i w hi hf hw
    have hpb := hW.parb hi
    have e : BackR T x (f + 1) i (w : Int) = if x ≤ (w : Int) ∨ tPar T i < 0 then (i, (w : Int)) else BackR T x f (tPar T i).toNat ((w : Int) + 1) := rfl
    rw [e]
    intro h0 h1
    by_cases z1 : x ≤ (w : Int)
    · rw [if_pos (Or.inl z1)] at h0 h1
      exact b_X9_back_16 hn ⟨fun _ => ⟨h0, h1⟩, fun q => by omega⟩
    · refine b_X9_back_16 hn ⟨fun q => by omega, fun _ => ⟨fun q => by omega, fun _ => ⟨t, hg, ht, (sp_parentOf hn ht hC hk2 ⟨by omega, by omega⟩).mono ?_⟩⟩⟩
      rintro v _ - ⟨rfl, ⟨j, hj, ej, ev⟩ | ⟨hno, _⟩⟩
      · have : j = i := by omega
        subst this
        refine ⟨fun q => ?_, fun q => ⟨t, hg, ht, (sp_parentOf hn ht hC hk2 ⟨by omega, by omega⟩).mono ?_⟩⟩
        · rw [if_pos (Or.inr (by omega))] at h0 h1
          exact ⟨h0, h1⟩
        · rintro v2 _ - ⟨rfl, ⟨j', hj', ej', ev'⟩ | ⟨hno, _⟩⟩
          · have : j' = j := by omega
            subst this
            rw [if_neg (by omega)] at h0 h1
            refine ⟨⟨by omega, by omega⟩, ?_⟩
            have hpn : v2 = (((tPar T j').toNat : Nat) : Int) := by omega
            have := ih (tPar T j').toNat (w + 1) (by omega) (by omega) (by omega) (by simpa using h0) (by simpa using h1)
            rw [hpn]
            simpa using this
          · omega
      · omega
theorem backm_loop (hn : 104 ≤ n) {g m k : Nat} {c x : Int} {T : ATr} {P : Int → ZSto → Prop} {σ0 : ZSto} (hg : g < 2) (hM : MTr σ0 g m k c T) (hW : TW m k T) :
    ∀ (f i w : Nat) (σ : ZSto), i < k → i < f → w + i < 250 → Fr (fun a i => a = 73 ∧ i = 11) σ0 σ → gI σ 73 11 = ((250 * g + i : Nat) : Int) → (w = 0 → σ = σ0) → ((BackR T x f i (w : Int)).2 ≤ 0 → P (BackR T x f i (w : Int)).2 σ0) → (∀ σ' : ZSto, Fr (fun a i => a = 73 ∧ i = 11) σ0 σ' → gI σ' 73 11 = ((250 * g + (BackR T x f i (w : Int)).1 : Nat) : Int) → ¬ (BackR T x f i (w : Int)).2 ≤ 0 → ZkV X M_X10_clears (d + 1) n [.ref (zB X + 73)] σ' (fun σ9 => P (BackR T x f i (w : Int)).2 σ9)) → L_X10_back_8 X (d + 1) n (zpI P) x (w : Int) σ := by
  have hk2 := hW.2.2.1
  intro f
  induction f with
  | zero => intro i w σ hi hf; omega
  | succ f ih =>
    intro i w σ hi hf hw hfr e11 h00
    have hpb := hW.parb hi
    have tK : (((250 * g + i : Nat)) : Int).toNat = 250 * g + i := by omega
    have r1 : gI σ 74 (250 * g + i) = if tPar T i < 0 then -1 else 250 * (g : Int) + tPar T i := by rw [hfr.I (by omega)]; exact (hM.2.2.2 i hi).1
    have e : BackR T x (f + 1) i (w : Int) = if x ≤ (w : Int) ∨ tPar T i < 0 then (i, (w : Int)) else BackR T x f (tPar T i).toNat ((w : Int) + 1) := rfl
    rw [e]
    intro h0 h1
    refine b_X10_back_8 hn ?_
    rw [e11, tK, r1]
    refine ⟨fun z1 => ?_, fun z1 => ⟨by omega, fun z2 => ?_, fun z2 => ?_⟩⟩
    · rw [if_pos (Or.inl z1)] at h0 h1
      refine ⟨fun q => ?_, fun q => h1 σ hfr e11 q⟩
      rw [h00 (by omega)]; exact h0 q
    · have z3 : tPar T i < 0 := by split at z2 <;> omega
      rw [if_pos (Or.inr z3)] at h0 h1
      refine ⟨fun q => ?_, fun q => h1 σ hfr e11 q⟩
      rw [h00 (by omega)]; exact h0 q
    · have z3 : ¬ tPar T i < 0 := by intro q; rw [if_pos q] at z2; omega
      rw [if_neg (by omega)] at h0 h1
      rw [if_neg z3]
      refine ⟨⟨by omega, by omega⟩, ?_⟩
      have := ih (tPar T i).toNat (w + 1) (sI σ 73 11 (250 * (g : Int) + tPar T i)) (by omega) (by omega) (by omega) (hfr.sI ⟨rfl, rfl⟩) (by rw [gI_same]; omega) (fun q => by omega) (by simpa using h0) (by simpa using h1)
      simpa using this
theorem op_back (hn : 104 ≤ n) (h : Rel σ G) {x : Int} (hx : R32 x) : ZkI X M_X9_back (d + 4) n [.ref (zB X + 0), iV x] σ (fun v σ1 => ZkI X M_X10_back (d + 2) n [.ref (zB X + 73), iV x] σ1 (fun w σ2 => v = w ∧ Rel σ2 (G + 60000))) := by
  have hR := h
  have hn' : 73 ≤ n := by omega
  obtain ⟨h1, h2, h3, t, g, m, k, pl, c, T, hGm, hB, hB2, g1, g2⟩ := h
  have hGm' := hGm
  obtain ⟨ht, hg, p0, p1, e10, e11, e16, hpk, hW, hTS, hc, hC, hM⟩ := hGm
  have hk2 := hW.2.2.1
  have htt : t + 13 ≤ 28 := by unfold zIsT at ht; omega
  have fin : Rel σ (G + 60000) := hR.mono (by omega)
  refine w_X9_back hn' hx ⟨fun q => ⟨t, p0, ht, fun y hy => ?_⟩, fun q => w_X10_back hn hx ⟨fun z => by omega, fun _ => ⟨rfl, fin⟩⟩⟩
  rw [e16] at hy
  subst hy
  have key := backc_loop (X := X) (d := d + 1) (σ := σ) (x := x) hn' ht p0 hC hW (P := fun v σ1 => ZkI X M_X10_back (d + 2) n [.ref (zB X + 73), iV x] σ1 (fun w σ2 => v = w ∧ Rel σ2 (G + 60000))) 250 pl 0 hpk (by omega) (by omega) ?_ ?_
  · simpa using key
  · intro hz
    refine w_X10_back hn hx ⟨fun _ => ?_, fun q => by omega⟩
    have := backm_loop (X := X) (d := d) (x := x) (σ0 := σ) hn hg hM hW (P := fun w σ2 => (BackR T x 250 pl ((0 : Nat) : Int)).2 = w ∧ Rel σ2 (G + 60000)) 250 pl 0 σ hpk (by omega) (by omega) Fr.rf e11 (fun _ => rfl) (fun _ => ⟨rfl, fin⟩) (fun σ' _ _ q => absurd hz q)
    simpa using this
  · intro hz
    have hi := backR_i hW x 250 pl ((0 : Nat) : Int) hpk
    refine (sp_moveTo hn' ht p0 hC hW hi hB).mono ?_
    rintro σ1 ⟨f1, e1, b1, z1⟩
    refine w_X10_back hn hx ⟨fun _ => ?_, fun q => by omega⟩
    have := backm_loop (X := X) (d := d) (x := x) (σ0 := σ1) hn hg (hM.kept hk2 f1 (fun a i q => by unfold mtrD at q; omega)) hW (P := fun w σ2 => (BackR T x 250 pl ((0 : Nat) : Int)).2 = w ∧ Rel σ2 (G + 60000)) 250 pl 0 σ1 hpk (by omega) (by omega) Fr.rf (by rw [f1.I (by omega)]; exact e11) (fun _ => rfl) (fun q => absurd q hz) (fun σ' f' e' _ => ?_)
    · simpa using this
    · refine (sm_clears hn).mono ?_
      rintro σ2 ⟨f2, z2⟩
      exact ⟨rfl, Rel.mono (Rel.goto h1 h2 hGm' hB2 g1 g2 hi f1 e1 b1 z1 ((f'.mono (fun a i q => Or.inl q)).tr (f2.mono (fun a i q => Or.inr q))) (by rw [f2.I (by omega)]; exact e') z2) (by omega)⟩
end ZR
