/-! ===== what holds between calls ===== -/
def DdR (σ : ZSto) : Prop := ∀ p, p < 81 → (gI σ 68 p = 0 ∨ gI σ 68 p = 1) ∧ gI σ 92 p = gI σ 68 p
def GmR (σ : ZSto) (t g m k pl : Nat) (c : Int) (T : ATr) : Prop := zIsT t ∧ g < 2 ∧ gP σ 0 0 = some t ∧ gP σ 0 1 = some (16 - t) ∧ gI σ 73 10 = (g : Int) ∧ gI σ 73 11 = ((250 * g + pl : Nat) : Int) ∧ gI σ t 16 = (pl : Int) ∧ pl < k ∧ TW m k T ∧ TSum T k ∧ (-200 ≤ c ∧ c ≤ 200) ∧ CTr σ t m k c T ∧ MTr σ g m k c T
def BdR (σ : ZSto) (m : Nat) (bd : Nat → Int) (G : Int) : Prop := BOk σ 33 m bd ∧ BPre σ 41 ∧ gI σ 33 10 ≤ G ∧ gI σ 41 10 ≤ G
def KoR (σ : ZSto) : Prop := gI σ 73 12 = gI σ 0 13 ∧ 0 ≤ gI σ 0 13 ∧ gI σ 0 13 ≤ 2
def OthR (σ : ZSto) : Prop := ClkR σ ∧ TapeR σ ∧ OutR σ ∧ gI σ 73 23 = gI σ 49 9 ∧ KoR σ
def Rel (σ : ZSto) (G : Int) : Prop := OthR σ ∧ StepR σ ∧ DdR σ ∧ ∃ (t g m k pl : Nat) (c : Int) (T : ATr), GmR σ t g m k pl c T ∧ BdR σ m (tBrd T pl) G
def outD (a i : Nat) : Prop := a = 32 ∨ a = 90 ∨ (a = 31 ∧ i = 1) ∨ (a = 73 ∧ i = 31)
def koD (a i : Nat) : Prop := (a = 0 ∧ i = 13) ∨ (a = 73 ∧ i = 12)
def plcD (a i : Nat) : Prop := (a = 49 ∧ i = 9) ∨ (a = 73 ∧ i = 23)
def stpD (a i : Nat) : Prop := (a = 61 ∧ (i = 9 ∨ i = 10)) ∨ (a = 73 ∧ (i = 41 ∨ i = 42))
def gmD (t g a i : Nat) : Prop := ctrD t a i ∨ (a = t ∧ i = 16) ∨ mtrD g a i ∨ (a = 0 ∧ (i = 0 ∨ i = 1)) ∨ (a = 73 ∧ (i = 10 ∨ i = 11))
theorem OutR.kept {W : Nat → Nat → Prop} {σ σ' : ZSto} (h : OutR σ) (hf : Fr W σ σ') (hw : ∀ a i, outD a i → ¬ W a i) : OutR σ' := by
  have e : ∀ a i, outD a i → gI σ' a i = gI σ a i := fun a i q => hf.I (hw a i q)
  have e1 := e 31 1 (by unfold outD; omega)
  refine ⟨by rw [e1]; exact h.1, by rw [e1, e 73 31 (by unfold outD; omega)]; exact h.2.1, fun i hi => ?_⟩
  rw [e1] at hi
  rw [e 90 i (by unfold outD; omega), e 32 i (by unfold outD; omega)]
  exact h.2.2 i hi
theorem KoR.kept {W : Nat → Nat → Prop} {σ σ' : ZSto} (h : KoR σ) (hf : Fr W σ σ') (hw : ∀ a i, koD a i → ¬ W a i) : KoR σ' := by
  have e : ∀ a i, koD a i → gI σ' a i = gI σ a i := fun a i q => hf.I (hw a i q)
  unfold KoR
  rw [e 0 13 (by unfold koD; omega), e 73 12 (by unfold koD; omega)]
  exact h
theorem StepR.kept {W : Nat → Nat → Prop} {σ σ' : ZSto} (h : StepR σ) (hf : Fr W σ σ') (hw : ∀ a i, stpD a i → ¬ W a i) : StepR σ' := by
  have e : ∀ a i, stpD a i → gI σ' a i = gI σ a i := fun a i q => hf.I (hw a i q)
  unfold StepR
  rw [e 61 9 (by unfold stpD; omega), e 61 10 (by unfold stpD; omega), e 73 41 (by unfold stpD; omega), e 73 42 (by unfold stpD; omega)]
  exact h
theorem OthR.kept {W : Nat → Nat → Prop} {σ σ' : ZSto} (h : OthR σ) (hf : Fr W σ σ') (hw : ∀ a i, (clkD a i ∨ tapeD a i ∨ outD a i ∨ plcD a i ∨ koD a i) → ¬ W a i) : OthR σ' := by
  obtain ⟨h1, h2, h3, h4, h5⟩ := h
  refine ⟨h1.kept hf (fun a i q => hw a i (Or.inl q)), h2.kept hf (fun a i q => hw a i (Or.inr (Or.inl q))), h3.kept hf (fun a i q => hw a i (Or.inr (Or.inr (Or.inl q)))), ?_, h5.kept hf (fun a i q => hw a i (Or.inr (Or.inr (Or.inr (Or.inr q)))))⟩
  rw [hf.I (hw 73 23 (by unfold plcD; omega)), hf.I (hw 49 9 (by unfold plcD; omega))]
  exact h4
theorem GmR.kept {W : Nat → Nat → Prop} {σ σ' : ZSto} {t g m k pl : Nat} {c : Int} {T : ATr} (h : GmR σ t g m k pl c T) (hf : Fr W σ σ') (hw : ∀ a i, gmD t g a i → ¬ W a i) : GmR σ' t g m k pl c T := by
  obtain ⟨h1, h2, h3, h4, h5, h6, h7, h8, h9, h10, h11, h12, h13⟩ := h
  refine ⟨h1, h2, ?_, ?_, ?_, ?_, ?_, h8, h9, h10, h11, h12.kept hf (fun a i q => hw a i (Or.inl q)), h13.kept h9.2.2.1 hf (fun a i q => hw a i (Or.inr (Or.inr (Or.inl q))))⟩
  · rw [hf.P (hw _ _ (by unfold gmD; omega))]; exact h3
  · rw [hf.P (hw _ _ (by unfold gmD; omega))]; exact h4
  · rw [hf.I (hw _ _ (by unfold gmD; omega))]; exact h5
  · rw [hf.I (hw _ _ (by unfold gmD; omega))]; exact h6
  · rw [hf.I (hw _ _ (by unfold gmD; omega))]; exact h7
theorem DdR.kept {W : Nat → Nat → Prop} {σ σ' : ZSto} (h : DdR σ) (hf : Fr W σ σ') (hw : ∀ a i, a = 68 ∨ a = 92 → ¬ W a i) : DdR σ' := by
  intro p hp
  rw [hf.I (hw 68 p (by omega)), hf.I (hw 92 p (by omega))]
  exact h p hp
/-- what a question may change -/
def qW (a i : Nat) : Prop := gatW 33 a i ∨ brdW 41 a ∨ (53 ≤ a ∧ a ≤ 67 ∧ ¬ (a = 61 ∧ (i = 9 ∨ i = 10))) ∨ a = 69 ∨ a = 70 ∨ (a = 73 ∧ (i = 13 ∨ i = 18 ∨ i = 39 ∨ i = 40 ∨ i = 43 ∨ i = 44)) ∨ (84 ≤ a ∧ a ≤ 87) ∨ (93 ≤ a ∧ a ≤ 100)
theorem Rel.qry {σ σ' : ZSto} {G G' : Int} (h : Rel σ G) (hf : Fr qW σ σ') (hB : ∀ m bd, BOk σ 33 m bd → BOk σ' 33 m bd) (hB2 : BPre σ' 41) (g1 : gI σ' 33 10 ≤ G') (g2 : gI σ' 41 10 ≤ G') : Rel σ' G' := by
  obtain ⟨h1, h2, h3, t, g, m, k, pl, c, T, h4, h5⟩ := h
  refine ⟨h1.kept hf (fun a i q => by unfold clkD tapeD outD plcD koD at q; unfold qW gatW brdW; omega), h2.kept hf (fun a i q => by unfold stpD at q; unfold qW gatW brdW; omega), h3.kept hf (fun a i q => by unfold qW gatW brdW; omega), t, g, m, k, pl, c, T, h4.kept hf (fun a i q => ?_), hB _ _ h5.1, hB2, g1, g2⟩
  have z1 := h4.1
  have z2 := h4.2.1
  unfold zIsT at z1
  unfold gmD ctrD mtrD at q
  unfold qW gatW brdW
  omega
theorem Rel.mono {σ : ZSto} {G G' : Int} (h : Rel σ G) (hG : G ≤ G') : Rel σ G' := by
  obtain ⟨h1, h2, h3, t, g, m, k, pl, c, T, h4, h5, h6, h7, h8⟩ := h
  exact ⟨h1, h2, h3, t, g, m, k, pl, c, T, h4, h5, h6, by omega, by omega⟩
/-- what status depends on -/
def Stat (m k : Nat) (T : ATr) (ko : Int) (pl : Nat) (p v : Int) : Prop :=
  (p ≠ -1 ∧ ¬ (0 ≤ p ∧ p < (m * m : Nat)) ∧ v = 1) ∨ ((0 ≤ p ∧ p < (m * m : Nat)) ∧ Why m T ko (tBrd T pl) (pl : Int) p.toNat (tTrn T pl) v ∧ v ≠ 0) ∨
  ((p = -1 ∨ ((0 ≤ p ∧ p < (m * m : Nat)) ∧ Why m T ko (tBrd T pl) (pl : Int) p.toNat (tTrn T pl) 0)) ∧
    ((v = 5 ∧ Over T pl) ∨ (¬ Over T pl ∧ v = 6 ∧ k = 250 ∧ Lst (fun j => tPar T j = (pl : Int) ∧ tCol T j = tTrn T pl ∧ tPnt T j = p) 0 k (-1)) ∨ (¬ Over T pl ∧ v = 0 ∧ ¬ (k = 250 ∧ Lst (fun j => tPar T j = (pl : Int) ∧ tCol T j = tTrn T pl ∧ tPnt T j = p) 0 k (-1)))))
theorem Stat.uniq {m k : Nat} {T : ATr} {ko : Int} {pl : Nat} {p v w : Int} (h1 : Stat m k T ko pl p v) (h2 : Stat m k T ko pl p w) : v = w := by
  rcases h1 with ⟨a1, a2, a3⟩ | ⟨a1, a2, a3⟩ | ⟨a1, a2⟩ <;> rcases h2 with ⟨b1, b2, b3⟩ | ⟨b1, b2, b3⟩ | ⟨b1, b2⟩
  · omega
  · exact absurd b1 a2
  · rcases b1 with q | q
    · exact absurd q a1
    · exact absurd q.1 a2
  · exact absurd a1 b2
  · exact a2.uniq b2
  · rcases b1 with q | q
    · omega
    · exact absurd (a2.uniq q.2) a3
  · rcases a1 with q | q
    · exact absurd q b1
    · exact absurd q.1 b2
  · rcases a1 with q | q
    · omega
    · exact absurd (b2.uniq q.2) b3
  · rcases a2 with ⟨x1, x2⟩ | ⟨x1, x2, x3⟩ | ⟨x1, x2, x3⟩ <;> rcases b2 with ⟨y1, y2⟩ | ⟨y1, y2, y3⟩ | ⟨y1, y2, y3⟩
    · omega
    · exact absurd x2 y1
    · exact absurd x2 y1
    · exact absurd y2 x1
    · omega
    · exact absurd x3 y3
    · exact absurd y2 x1
    · exact absurd y3 x3
    · omega
theorem Stat.r {m k : Nat} {T : ATr} {ko : Int} {pl : Nat} {p v : Int} (h : Stat m k T ko pl p v) : 0 ≤ v ∧ v ≤ 6 := by
  rcases h with ⟨a1, a2, a3⟩ | ⟨a1, a2, a3⟩ | ⟨a1, a2⟩
  · omega
  · rcases a2 with ⟨x, _⟩ | ⟨_, x, _⟩ | ⟨_, _, ⟨x, _⟩ | ⟨x, _⟩⟩ <;> omega
  · rcases a2 with ⟨x1, x2⟩ | ⟨x1, x2, x3⟩ | ⟨x1, x2, x3⟩ <;> omega
section ZR
variable {X : ZX} {d n : Nat} {σ : ZSto}
theorem TW.trn {m k : Nat} {T : ATr} (h : TW m k T) {i : Nat} (hi : i < k) : tTrn T i = 1 ∨ tTrn T i = 2 := (h.2.2.2 i hi).2.2.2.2.2.2.2.2.1
theorem TW.con {m k : Nat} {T : ATr} (h : TW m k T) {i : Nat} (hi : i < k) : BCon m (tBrd T i) := (h.2.2.2 i hi).2.2.2.2.2.2.2.2.2.2.2.2.2.2.2.1
theorem sp_statusOf (hn : 73 ≤ n) {t m k pl : Nat} {c p : Int} {T : ATr} (ht : zIsT t) (hg : gP σ 0 0 = some t) (hC : CTr σ t m k c T) (hW : TW m k T) (hpl : gI σ t 16 = (pl : Int)) (hpk : pl < k) (hB : BOk σ 33 m (tBrd T pl)) (hB2 : BPre σ 41) (hG : gI σ 41 10 < 1999999000) (hp : R32 p) (hko : R32 (gI σ 0 13)) :
    ZkI X M_X9_statusOf (d + 6) n [.ref (zB X + 0), iV p] σ (fun v σ' => Fr (fun a i => brdW 41 a) σ σ' ∧ Stat m k T (gI σ 0 13) pl p v ∧ BPre σ' 41 ∧ gI σ' 41 10 ≤ gI σ 41 10 + 5 ∧ (v = 0 → p ≠ -1 → BOk σ' 41 m (putB m (tBrd T pl) p.toNat (tTrn T pl)) ∧ gI σ' 41 12 = (cnt (Dies m (tBrd T pl) p.toNat (tTrn T pl)) (m * m) : Nat))) := by
  have hk2 := hW.2.2.1
  have hN := sq_le hW.2.1
  have htn := hW.trn hpk
  have hd : ¬ (41 ≤ t ∧ t ≤ 48) ∧ ¬ (41 ≤ t + 13 ∧ t ≤ 48) := by unfold zIsT at ht; omega
  -- behind the board's answer
  have rest : ∀ τ : ZSto, Fr (fun a i => brdW 41 a) σ τ → BPre τ 41 → gI τ 41 10 ≤ gI σ 41 10 + 5 → (p = -1 ∨ ((0 ≤ p ∧ p < (m * m : Nat)) ∧ Why m T (gI σ 0 13) (tBrd T pl) (pl : Int) p.toNat (tTrn T pl) 0)) → (p ≠ -1 → BOk τ 41 m (putB m (tBrd T pl) p.toNat (tTrn T pl)) ∧ gI τ 41 12 = (cnt (Dies m (tBrd T pl) p.toNat (tTrn T pl)) (m * m) : Nat)) → L_X9_statusOf_33 X (d + 5) n (zpI (fun v σ' => Fr (fun a i => brdW 41 a) σ σ' ∧ Stat m k T (gI σ 0 13) pl p v ∧ BPre σ' 41 ∧ gI σ' 41 10 ≤ gI σ 41 10 + 5 ∧ (v = 0 → p ≠ -1 → BOk σ' 41 m (putB m (tBrd T pl) p.toNat (tTrn T pl)) ∧ gI σ' 41 12 = (cnt (Dies m (tBrd T pl) p.toNat (tTrn T pl)) (m * m) : Nat)))) p (tTrn T pl) τ := by
    intro τ hf hb hgc hpre hbd
    have hC' : CTr τ t m k c T := hC.kept hf (fun a i q z => by unfold ctrD at q; unfold brdW at z; omega)
    have hg' : gP τ 0 0 = some t := by rw [hf.P (by unfold brdW; omega)]; exact hg
    have hpl' : gI τ t 16 = (pl : Int) := by rw [hf.I (by unfold brdW; omega)]; exact hpl
    refine b_X9_statusOf_33 hn ⟨t, hg', ht, ?_⟩
    rw [hpl']
    refine (sp_isOver hn ht hC' hW hpk).mono ?_
    rintro v _ - ⟨rfl, ⟨rfl, ho⟩ | ⟨rfl, ho⟩⟩
    · exact ⟨fun q => by omega, fun _ => ⟨hf, Or.inr (Or.inr ⟨hpre, Or.inl ⟨rfl, ho⟩⟩), hb, hgc, fun q => by omega⟩⟩
    · refine ⟨fun _ => ⟨t, hg', ht, fun q => ?_, fun q => ?_⟩, fun q => by omega⟩
      · rw [hC'.2.2.1] at q
        exact ⟨hf, Or.inr (Or.inr ⟨hpre, Or.inr (Or.inr ⟨ho, rfl, fun z => by omega⟩)⟩), hb, hgc, fun _ => hbd⟩
      · rw [hC'.2.2.1] at q
        rw [hpl']
        refine (sp_childOf hn ht hC' hk2 hpk ⟨by omega, by omega⟩ hp).mono ?_
        rintro v2 _ - ⟨rfl, hL⟩
        refine ⟨fun q2 => ⟨hf, Or.inr (Or.inr ⟨hpre, Or.inr (Or.inr ⟨ho, rfl, fun z => q2 (hL.uniq z.2)⟩)⟩), hb, hgc, fun _ => hbd⟩, fun q2 => ⟨hf, Or.inr (Or.inr ⟨hpre, Or.inr (Or.inl ⟨ho, rfl, by omega, by rw [q2] at hL; exact hL⟩)⟩), hb, hgc, fun q => by omega⟩⟩
  refine w_X9_statusOf hn hp ⟨t, hg, ht, ?_⟩
  rw [hpl]
  refine (sp_turnAt hn ht hC hk2 hpk).mono ?_
  rintro v _ - ⟨rfl, rfl⟩
  refine ⟨fun q => rest σ Fr.rf hB2 (by omega) (Or.inl q) (fun z => absurd q z), fun q => ?_⟩
  refine w_X9_boardStatus hn hp ⟨by omega, by omega⟩ ((sp_has hn (Or.inl rfl) hB.1 hp).mono ?_)
  rintro v _ - ⟨rfl, hv⟩
  by_cases hin : 0 ≤ p ∧ p < (m * m : Nat)
  · rw [if_pos hin] at hv
    refine ⟨fun _ => ?_, fun z => by omega⟩
    refine (sp_copyOf hn (Or.inr rfl) (Or.inl rfl) (by omega) hB2 hB).mono ?_
    rintro σ1 ⟨f1, b1⟩
    have f1' : Fr (fun a i => brdW 41 a) σ σ1 := f1.mono (fun a i q => by unfold brdW; omega)
    have hC' : CTr σ1 t m k c T := hC.kept f1' (fun a i q z => by unfold ctrD at q; unfold brdW at z; omega)
    have g1 : gI σ1 41 10 = gI σ 41 10 := f1.I (by omega)
    have k1 : gI σ1 0 13 = gI σ 0 13 := f1.I (by omega)
    refine ⟨t, by rw [f1.P (by omega)]; exact hg, ht, ?_⟩
    rw [f1.I (a := t) (by omega), hpl, k1]
    obtain ⟨pn, epn⟩ : ∃ pn : Nat, p = (pn : Int) := ⟨p.toNat, by omega⟩
    subst epn
    have tpn : ((pn : Int)).toNat = pn := by omega
    rw [tpn] at rest ⊢
    refine (sp_tryPlay hn ht (Or.inr rfl) hC' hW b1 (x := (pl : Int)) (by omega) (by omega) htn hko (by omega)).mono ?_
    rintro v2 σ2 - ⟨f2, g2, hw, c2, c0⟩
    have f12 := f1'.tr f2
    have bp : BPre σ2 41 := by
      by_cases z : v2 = 2
      · exact (c2 z).pre
      · exact (c0 z).1.pre
    refine ⟨fun z => ?_, fun z => ⟨f12, Or.inr (Or.inl ⟨hin, by rw [tpn]; exact hw, z⟩), bp, by omega, fun z2 => absurd z2 z⟩⟩
    subst z
    exact rest σ2 f12 bp (by omega) (Or.inr ⟨hin, hw⟩) (fun _ => c0 (by omega))
  · rw [if_neg hin] at hv
    exact ⟨fun z => absurd hv z, fun _ => ⟨fun z => by omega, fun _ => ⟨Fr.rf, Or.inl ⟨q, hin, rfl⟩, hB2, by omega, fun z => by omega⟩⟩⟩
def staW (a i : Nat) : Prop := putW a i ∨ (a = 73 ∧ i = 13)
theorem sm_status (hn : 104 ≤ n) {g m k pl : Nat} {c p ko : Int} {T : ATr} (hg : g < 2) (hg2 : gI σ 73 10 = (g : Int)) (hM : MTr σ g m k c T) (hW : TW m k T) (hpl : gI σ 73 11 = ((250 * g + pl : Nat) : Int)) (hpk : pl < k) (hko : gI σ 73 12 = ko) (hp : R32 p) :
    ZkI X M_X10_status (d + 5) n [.ref (zB X + 73), iV p] σ (fun v σ' => Fr staW σ σ' ∧ Stat m k T ko pl p v ∧ gI σ' 73 13 = (m : Int)) := by
  have hk2 := hW.2.2.1
  have hN := sq_le hW.2.1
  have htn := hW.trn hpk
  have tg : ((g : Int)).toNat = g := by omega
  have keepM : ∀ τ : ZSto, Fr staW σ τ → MTr τ g m k c T := fun τ hf => hM.kept hk2 hf (fun a i q z => by unfold mtrD at q; unfold staW putW at z; omega)
  have rest : ∀ τ : ZSto, Fr staW σ τ → gI τ 73 13 = (m : Int) → (p = -1 ∨ ((0 ≤ p ∧ p < (m * m : Nat)) ∧ Why m T ko (tBrd T pl) (pl : Int) p.toNat (tTrn T pl) 0)) → L_X10_status_63 X (d + 4) n (zpI (fun v σ' => Fr staW σ σ' ∧ Stat m k T ko pl p v ∧ gI σ' 73 13 = (m : Int))) p (tTrn T pl) τ := by
    intro τ hf hm hpre
    have hM' := keepM τ hf
    have e10 : gI τ 73 10 = (g : Int) := by rw [hf.I (by unfold staW putW; omega)]; exact hg2
    have e11 : gI τ 73 11 = ((250 * g + pl : Nat) : Int) := by rw [hf.I (by unfold staW putW; omega)]; exact hpl
    refine b_X10_status_63 hn ?_
    rw [e11]
    refine (sm_isOver hn hg hM'.2.2.2 hW hpk).mono ?_
    rintro v _ - ⟨rfl, ⟨rfl, ho⟩ | ⟨rfl, ho⟩⟩
    · exact ⟨fun q => by omega, fun _ => ⟨hf, Or.inr (Or.inr ⟨hpre, Or.inl ⟨rfl, ho⟩⟩), hm⟩⟩
    · rw [e10, tg, hM'.2.2.1, e11]
      refine ⟨fun _ => ⟨by omega, fun q => ⟨hf, Or.inr (Or.inr ⟨hpre, Or.inr (Or.inr ⟨ho, rfl, fun z => by omega⟩)⟩), hm⟩, fun q => ?_⟩, fun q => by omega⟩
      refine (sm_child hn hg hM'.2.2.2 hM'.2.2.1 hW hpk htn hp).mono ?_
      rintro v2 _ - ⟨rfl, v', hv', hL⟩
      refine ⟨fun q2 => ⟨hf, Or.inr (Or.inr ⟨hpre, Or.inr (Or.inr ⟨ho, rfl, fun z => ?_⟩)⟩), hm⟩, fun q2 => ⟨hf, Or.inr (Or.inr ⟨hpre, Or.inr (Or.inl ⟨ho, rfl, by omega, ?_⟩)⟩), hm⟩⟩
      · have := hL.uniq z.2
        rw [this, mX_n (by omega)] at hv'
        omega
      · have : v' = -1 := by
          rcases hL with ⟨e, _⟩ | ⟨j, _, _, _, e, _⟩
          · exact e
          · rw [e, mX_p] at hv'; omega
        rw [this] at hL; exact hL
  refine w_X10_status hn hp ?_
  rw [hg2, tg, hpl, hM.1]
  have f0 : Fr staW σ (sI σ 73 13 (m : Int)) := Fr.rf.sI (Or.inr ⟨rfl, rfl⟩)
  have hM0 := keepM _ f0
  refine ⟨by omega, (sm_turn hn hg hM0.2.2.2 hW hpk).mono ?_⟩
  rintro v _ - ⟨rfl, rfl⟩
  rw [gI_same, gI_f (by omega), hpl, show (m : Int) * (m : Int) = ((m * m : Nat) : Int) by simp]
  refine ⟨fun q => rest _ f0 (gI_same _ _ _ _) (Or.inl q), fun q => ⟨fun q2 => ⟨f0, Or.inl ⟨q, by omega, rfl⟩, rfl⟩, fun q2 => ⟨⟨by omega, by omega⟩, fun q3 => ?_, fun q3 => ⟨f0, Or.inl ⟨q, by omega, rfl⟩, rfl⟩⟩⟩⟩
  obtain ⟨pn, epn⟩ : ∃ pn : Nat, p = (pn : Int) := ⟨p.toNat, by omega⟩
  subst epn
  have tpn : ((pn : Int)).toNat = pn := by omega
  rw [tpn] at rest
  rw [← mX_p]
  refine (sm_why (ko := ko) hn hg hM0.2.2.2 hW (gI_same _ _ _ _) (by rw [gI_f (by omega)]; exact hko) htn (x := (pl : Int)) (by omega) (by omega)).mono ?_
  rintro v2 σ2 - ⟨f2, hw⟩
  rw [bB_p] at hw
  have f02 : Fr staW σ σ2 := f0.tr (f2.mono (fun a i z => Or.inl z))
  have m2 : gI σ2 73 13 = (m : Int) := by rw [f2.I (by unfold putW; omega)]; exact gI_same _ _ _ _
  have h0 : 0 ≤ v2 := by rcases hw with ⟨x, _⟩ | ⟨_, x, _⟩ | ⟨_, _, ⟨x, _⟩ | ⟨x, _⟩⟩ <;> omega
  refine ⟨fun z => ?_, fun z => ⟨f02, Or.inr (Or.inl ⟨by omega, by rw [tpn]; exact hw, by omega⟩), m2⟩⟩
  have : v2 = 0 := by omega
  subst this
  exact rest σ2 f02 m2 (Or.inr ⟨by omega, hw⟩)
end ZR
