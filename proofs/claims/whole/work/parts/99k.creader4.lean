def prW (t a j : Nat) : Prop := vlW t a j ∨ (a = 49 ∧ j = 13)
theorem vsF_s {B : Nat → Int} {L : Nat} {nm : Int} {w q od : Nat} {x : ND} (h : q < L ∧ B q = 91) : vsF B L nm (w + 1) q od x = match v1F B L nm od q x with | .inl f => .inl f | .inr r => vsF B L nm w (skp B L r.1) (od + 1) r.2 := by
  show (if q < L ∧ B q = 91 then _ else _) = _
  rw [if_pos h]
  unfold v1F
  by_cases hu : L ≤ clF B L L (q + 1)
  · rw [if_pos hu, if_pos hu]
  · rw [if_neg hu, if_neg hu]
    cases vlF B nm od (q + 1) (clF B L L (q + 1)) x with
    | none => rfl
    | some y => rfl
theorem vsF_e {B : Nat → Int} {L : Nat} {nm : Int} {w q od : Nat} {x : ND} (h : ¬ (q < L ∧ B q = 91)) : vsF B L nm w q od x = .inr (q, x) := by
  cases w with
  | zero => rfl
  | succ w =>
    show (if q < L ∧ B q = 91 then _ else _) = _
    rw [if_neg h]
theorem v1F_inv {B : Nat → Int} {L k m od q : Nat} {c nm t0 : Int} {x : ND} {r : Nat × ND} (hN : NmO k nm t0) (h : NDI k m c x) (ht : nTold x = orI t0 nm) (h0 : od = 0 → andI t0 124 = 0 → nMvr x = 0 ∧ ∀ p, nSet x p = 3) (hT : TLs (if od = 0 then t0 else nTold x) x) (he : v1F B L nm od q x = .inr r) : NDI k m c r.2 ∧ nTold r.2 = nTold x ∧ TLs (nTold r.2) r.2 ∧ q < r.1 ∧ r.1 ≤ L := by
  have hge := clF_ge (B := B) (L := L) L (q + 1)
  unfold v1F at he
  by_cases hu : L ≤ clF B L L (q + 1)
  · rw [if_pos hu] at he; cases he
  · rw [if_neg hu] at he
    cases hv : vlF B nm od (q + 1) (clF B L L (q + 1)) x with
    | none => rw [hv] at he; cases he
    | some y =>
      rw [hv] at he
      have e := Sum.inr.inj he
      subst e
      obtain ⟨k1, k2, k3, _⟩ := vlF_inv hN h ht h0 hT hv
      refine ⟨k1, k2, k3, ?_, ?_⟩
      · show q < clF B L L (q + 1) + 1; omega
      · show clF B L L (q + 1) + 1 ≤ L; omega
section ZC
variable {X : ZX} {d n : Nat} {B : Nat → Int} {L : Nat}
theorem rv_stop (hn : 73 ≤ n) {x2 x3 : Int} {P : ZSto → Prop} {σ : ZSto} (h8 : ¬ gI σ 49 8 = 0) (hP : P σ) : L_X5_readProperty_117 X d n (zpV P) x2 x3 σ :=
  b_X5_readProperty_117 hn ⟨fun _ => hP, fun _ => ⟨fun _ => hP, fun z => absurd z h8⟩⟩
theorem pv_loop (hn : 73 ≤ n) {t k m : Nat} {c nm t0 : Int} {σ0 : ZSto} (ht : zIsT t) (hN : NmO k nm t0) (hT0 : TpC σ0 B L) (hp0 : gP σ0 49 4 = some t) {res : (Int × Nat) ⊕ (Nat × ND)} : ∀ (w q od : Nat) (x : ND) (σ : ZSto), L - q ≤ w → od ≤ q → q ≤ L → Fr (prW t) σ0 σ → NDI k m c x → nTold x = orI t0 nm → (od = 0 → andI t0 124 = 0 → nMvr x = 0 ∧ ∀ p, nSet x p = 3) → TLs (if od = 0 then t0 else nTold x) x → NdC σ t x → gI σ 49 6 = (q : Int) → NoF σ → res = vsF B L nm w q od x → L_X5_readProperty_117 X (d + 3) n (zpV (fun σ' => Fr (prW t) σ0 σ' ∧ RvR σ' t L res)) nm (od : Int) σ := by
  intro w
  induction w with
  | zero =>
    intro q od x σ hw hod hqL hf hx htd h0 hTL hC h6 h8 hr
    have hT := hT0.kept hf (fun i => by unfold prW vlW zIsT at *; omega) (by unfold prW vlW zIsT at *; omega)
    have hL := hT.2.1
    have hfin : Fr (prW t) σ0 σ ∧ RvR σ t L res := by
      rw [hr, vsF_e (by omega)]; exact ⟨hf, h8, h6, hC⟩
    refine b_X5_readProperty_117 hn ⟨fun _ => hfin, fun _ => ⟨fun z => absurd h8.1 z, fun _ => ?_⟩⟩
    rw [h6]
    refine (sp_byte hn hT q (by omega)).mono ?_
    rintro b _ - ⟨rfl, hb⟩
    exact ⟨fun _ => hfin, fun z => by omega⟩
  | succ w ih =>
    intro q od x σ hw hod hqL hf hx htd h0 hTL hC h6 h8 hr
    have hT := hT0.kept hf (fun i => by unfold prW vlW zIsT at *; omega) (by unfold prW vlW zIsT at *; omega)
    have hp : gP σ 49 4 = some t := by rw [hf.P (by unfold prW vlW zIsT at *; omega)]; exact hp0
    have hL := hT.2.1
    have hfin : ¬ (q < L ∧ B q = 91) → Fr (prW t) σ0 σ ∧ RvR σ t L res := fun hno => by
      rw [hr, vsF_e hno]; exact ⟨hf, h8, h6, hC⟩
    refine b_X5_readProperty_117 hn ⟨fun z => hfin (by omega), fun _ => ⟨fun z => absurd h8.1 z, fun _ => ?_⟩⟩
    rw [h6]
    refine (sp_byte hn hT q (by omega)).mono ?_
    rintro b _ - ⟨rfl, hb⟩
    refine ⟨fun z => hfin (by omega), fun z => ?_⟩
    have hcond : q < L ∧ B q = 91 := by omega
    refine (sp_readValue hn ht hN.1 hT hp hx hC (fun y ho => (h0 ho (hN.2.2.1 (Or.inl y))).2) (by omega) hcond.1 h6 h8).mono ?_
    rintro σ1 ⟨f1, R1⟩
    have F1 : Fr (prW t) σ0 σ1 := hf.tr (f1.mono (fun a j y => Or.inl y))
    have hT1 := hT0.kept F1 (fun i => by unfold prW vlW zIsT at *; omega) (by unfold prW vlW zIsT at *; omega)
    have rod : R32 ((od : Int) + 1) := ⟨by omega, by omega⟩
    rw [vsF_s hcond] at hr
    cases hv : v1F B L nm od q x with
    | inl f =>
      rw [hv] at R1 hr
      obtain ⟨r1, r2, r3, r4⟩ := R1
      obtain ⟨p, hpp⟩ : ∃ p : Nat, gI σ1 49 6 = (p : Int) := ⟨(gI σ1 49 6).toNat, by omega⟩
      refine (sp_skip hn L p σ1 hT1 (by omega) (by omega) hpp).mono ?_
      rintro σ2 ⟨f2, e2⟩
      have hs := (skF_ge (B := B) (L := L) L p).2 (by omega)
      refine ⟨rod, rv_stop hn (by rw [f2.I (by omega), r1]; exact r3) ⟨F1.tr (f2.mono (fun a j y => by unfold prW vlW; omega)), ?_⟩⟩
      rw [hr]
      exact ⟨by rw [f2.I (by omega)]; exact r1, by rw [f2.I (by omega)]; exact r2, r3, by rw [e2]; omega⟩
    | inr r =>
      rw [hv] at R1 hr
      obtain ⟨r1, r2, r3⟩ := R1
      obtain ⟨k1, k2, k3, k4, k5⟩ := v1F_inv hN hx htd h0 hTL hv
      refine (sp_skip hn L r.1 σ1 hT1 (by omega) (by omega) r2).mono ?_
      rintro σ2 ⟨f2, e2⟩
      have hs := skp_ge (B := B) (L := L) r.1
      refine ⟨rod, ?_⟩
      have := ih (skp B L r.1) (od + 1) r.2 σ2 (by omega) (by omega) (hs.2 k5) (F1.tr (f2.mono (fun a j y => by unfold prW vlW; omega))) k1 (by rw [k2]; exact htd) (fun z => by omega) (by rw [if_neg (by omega)]; exact k3) (r3.kept f2 ⟨by omega, by omega, by omega, by unfold zIsT at ht; omega, by unfold zIsT at ht; omega, fun w => by omega⟩) (by rw [e2]; rfl) (r1.kept f2 (by omega) (by omega)) hr
      simpa using this
theorem sp_readProperty (hn : 73 ≤ n) {t k m i : Nat} {c : Int} {x : ND} {σ : ZSto} (ht : zIsT t) (hT : TpC σ B L) (hp : gP σ 49 4 = some t) (hk : gI σ t 15 = (k : Int)) (hx : NDI k m c x) (hTL : TLs (nTold x) x) (hC : NdC σ t x) (hi : i < L) (h6 : gI σ 49 6 = (i : Int)) (h8 : NoF σ) :
    ZkV X M_X5_readProperty (d + 4) n [.ref (zB X + 49)] σ (fun σ' => Fr (prW t) σ σ' ∧ RvR σ' t L (prF B L (decide (k = 0)) i x)) := by
  have hL := hT.2.1
  have ht2 : t = 1 ∨ t = 15 := ht
  have hg := grF_ge (B := B) (L := L) L i
  have hg2 := hg.2 (by omega)
  have hs := skp_ge (B := B) (L := L) (grF B L L i)
  have hs2 := hs.2 hg2
  refine w_X5_readProperty hn (fun y1 ey => ?_)
  rw [h6] at ey
  subst ey
  refine rp_5 hn hT (v := grF B L L i) (fun τ ft e6 => ?_) L i σ (by omega) (by omega) Fr.rf h6 rfl
  have hT1 := hT.kept ft (fun i => by omega) (by omega)
  refine b_X5_readProperty_49 hn ?_
  rw [e6]
  refine (sp_nameOf hn hT1 hi hg.1 hg2).mono ?_
  rintro nm _ - ⟨rfl, hnm⟩
  have his : isNm nm := by rw [hnm]; exact nmF_is
  have rnm : R32 nm := by unfold isNm at his; exact ⟨by omega, by omega⟩
  refine (sp_misplaced (told := nTold x) hn his ht (by rw [ft.P (by omega)]; exact hp) (by rw [ft.I (by omega)]; exact hC.1) (by rw [ft.I (by omega)]; exact hk)).mono ?_
  rintro v _ - ⟨rfl, hv⟩
  have FT : Fr (prW t) σ τ := ft.mono (fun a j y => by unfold prW vlW; omega)
  unfold prF
  rw [← hnm]
  refine ⟨fun z => ?_, fun z => ?_⟩
  · have hms : ¬ msF nm (nTold x) (decide (k = 0)) = true := by
      rcases hv with u | u
      · omega
      · exact u.2
    rw [if_neg hms]
    have hN := msF_ok his hms
    have e13 : gI τ 49 13 = nTold x := by rw [ft.I (by omega)]; exact hC.1
    rw [e13]
    have fs : Fr (fun a j => a = 49 ∧ j = 13) τ (sI τ 49 13 (orI (nTold x) nm)) := Fr.rf.sI ⟨rfl, rfl⟩
    refine (sp_skip hn L (grF B L L i) _ (hT1.kept fs (fun i => by omega) (by omega)) (by omega) (by omega) (by rw [gI_f (by omega)]; exact e6)).mono ?_
    rintro σ1 ⟨f1, e1⟩
    have e1' : gI σ1 49 6 = (skp B L (grF B L L i) : Nat) := e1
    have F1 : Fr (prW t) σ σ1 := (FT.tr (fs.mono (fun a j y => by unfold prW; omega))).tr (f1.mono (fun a j y => by unfold prW vlW; omega))
    have hT2 := hT.kept F1 (fun i => by unfold prW vlW; omega) (by unfold prW vlW; omega)
    have h81 : NoF σ1 := ((h8.kept ft (by omega) (by omega)).kept fs (by omega) (by omega)).kept f1 (by omega) (by omega)
    rw [e1']
    refine (sp_byte hn hT2 (skp B L (grF B L L i)) (by omega)).mono ?_
    rintro b _ - ⟨rfl, hb⟩
    refine ⟨fun y => ?_, fun y => ?_⟩
    · have hcond : skp B L (grF B L L i) < L ∧ B (skp B L (grF B L L i)) = 91 := by omega
      rw [if_pos hcond]
      have C1 : NdC σ1 t (toldN x (orI (nTold x) nm)) := by
        obtain ⟨c1, c2, c3, c4, c5, c6⟩ := hC
        refine ⟨?_, ?_, ?_, fun w hw => ?_, ?_, ?_⟩
        · rw [f1.I (by omega), gI_same]; rfl
        · rw [f1.I (by omega), gI_f (by omega), ft.I (by omega)]; exact c2
        · rw [f1.I (by omega), gI_f (by omega), ft.I (by omega)]; exact c3
        · rw [f1.L (by omega), gL_sI, ft.L (by omega)]; exact c4 w hw
        · rw [f1.I (by omega), gI_c (by omega), ft.I (by omega)]; exact c5
        · rw [f1.I (by omega), gI_c (by omega), ft.I (by omega)]; exact c6
      have := pv_loop (X := X) (d := d) (k := k) (m := m) (c := c) (t0 := nTold x) hn ht hN hT hp (res := vsF B L nm L (skp B L (grF B L L i)) 0 (toldN x (orI (nTold x) nm))) L (skp B L (grF B L L i)) 0 (toldN x (orI (nTold x) nm)) σ1 (by omega) (by omega) hs2 F1 (hx.told his) rfl (fun _ q => hx.2.2.2.2.2.2.2 q) (by rw [if_pos rfl]; exact hTL) C1 e1' h81 rfl
      simpa using this
    · rw [if_neg (by omega)]
      refine (sp_fail hn ⟨by omega, by omega⟩ ⟨by omega, by omega⟩).mono ?_
      rintro σ2 ⟨f2, g1, g2⟩
      refine rv_stop hn (by rw [g1]; omega) ⟨F1.tr (f2.mono (fun a j y => by unfold prW vlW; omega)), g1, by rw [g2]; exact e1', by show ¬ (1 : Int) = 0; omega, by rw [f2.I (by omega), e1']; omega⟩
  · have hms : msF nm (nTold x) (decide (k = 0)) = true := by
      rcases hv with u | u
      · exact u.2
      · exact absurd u.1 z
    rw [if_pos hms]
    refine (sp_fail hn ⟨by omega, by omega⟩ ⟨by omega, by omega⟩).mono ?_
    rintro σ2 ⟨f2, g1, g2⟩
    exact ⟨FT.tr (f2.mono (fun a j y => by unfold prW vlW; omega)), g1, g2, by show ¬ (2 : Int) = 0; omega, by rw [f2.I (by omega), e6]; omega⟩
end ZC
