/-- a node's result: fault and place, or the place behind, what was told, the game -/
noncomputable def ndR (B : Nat → Int) (L : Nat) (ko : Int) (i : Nat) (bh : Int) (k : Nat) (T : ATr) (m : Nat) (c : Int) : (Int × Nat) ⊕ (Nat × ND × ATr) :=
  match psF B L (decide (k = 0)) L (skp B L (i + 1)) (nd0 m c) with
  | .inl f => .inl f
  | .inr r => match stF ko k bh T r.2 with
    | .inl e => .inl (e, i)
    | .inr T' => .inr (r.1, r.2, T')
def NrR (σ : ZSto) (t k : Nat) : (Int × Nat) ⊕ (Nat × ND × ATr) → Prop
  | .inl f => gI σ 49 8 = f.1 ∧ gI σ 49 9 = (f.2 : Int) ∧ ¬ f.1 = 0
  | .inr r => NoF σ ∧ gI σ 49 6 = (r.1 : Int) ∧ gI σ 49 11 = (k : Int) ∧ CTr σ t (nSz r.2.1) (k + 1) (nKm r.2.1) r.2.2
def ndW (t a j : Nat) : Prop := (t ≤ a ∧ a ≤ t + 13 ∧ ¬ (a = t ∧ j = 16)) ∨ brdW 41 a ∨ a = 51 ∨ (a = 49 ∧ (j = 6 ∨ j = 7 ∨ j = 8 ∨ j = 9 ∨ j = 11 ∨ j = 12 ∨ j = 13 ∨ j = 14 ∨ j = 15))
theorem psF_s {B : Nat → Int} {L : Nat} {root : Bool} {w q : Nat} {x : ND} (h : q < L ∧ (65 ≤ B q ∧ B q ≤ 90)) : psF B L root (w + 1) q x = match prF B L root q x with | .inl f => .inl f | .inr r => psF B L root w (skp B L r.1) r.2 := by
  show (if q < L ∧ (65 ≤ B q ∧ B q ≤ 90) then _ else _) = _
  rw [if_pos h]
  cases prF B L root q x with
  | inl f => rfl
  | inr r => rfl
theorem psF_e {B : Nat → Int} {L : Nat} {root : Bool} {w q : Nat} {x : ND} (h : ¬ (q < L ∧ (65 ≤ B q ∧ B q ≤ 90))) : psF B L root w q x = .inr (q, x) := by
  cases w with
  | zero => rfl
  | succ w =>
    show (if q < L ∧ (65 ≤ B q ∧ B q ≤ 90) then _ else _) = _
    rw [if_neg h]
theorem CTr.sz {σ σ' : ZSto} {t m k m' : Nat} {c c' : Int} {T : ATr} (h : CTr σ t m k c T) {W : Nat → Nat → Prop} (hf : Fr W σ σ') (hw : ∀ a i, t + 1 ≤ a → a ≤ t + 13 → ¬ W a i) (hw2 : ¬ W t 15) (e13 : gI σ' t 13 = (m' : Int)) (e14 : gI σ' t 14 = c') (he : 0 < k → m' = m ∧ c' = c) : CTr σ' t m' k c' T := by
  obtain ⟨h1, h2, h3, h4, h5⟩ := h
  by_cases hk : k = 0
  · subst hk
    exact ⟨e13, e14, by rw [hf.I hw2]; exact h3, fun i hi => by omega, fun i hi => by omega⟩
  · obtain ⟨r1, r2⟩ := he (by omega)
    subst r1; subst r2
    refine ⟨e13, e14, by rw [hf.I hw2]; exact h3, fun i hi => (h4 i hi).kept hf (fun a q1 q2 => hw a i q1 (by omega)) (fun a w q1 q2 _ => hw a _ (by omega) q2), fun i hi => ?_⟩
    rw [hf.I (hw _ _ (by omega) (by omega)), hf.I (hw _ _ (by omega) (by omega)), hf.I (hw _ _ (by omega) (by omega)), hf.I (hw _ _ (by omega) (by omega))]
    exact h5 i hi
section ZC
variable {X : ZX} {d n : Nat} {B : Nat → Int} {L : Nat}
theorem sp_fillL (hn : 73 ≤ n) {σ : ZSto} : ZkV X M_J7_fill_d0a16 (d + 1) n [.ref (zB X + 51), .long (0 : Int64)] σ (fun σ' => Fr (fun b i => b = 51) σ σ' ∧ ∀ i, i < 3 → gL σ' 51 i = 0) := by
  refine w_J7_fill_d0a16 hn (by omega) sh_51 ?_
  have := upto (N := 3) (Q := fun j τ => L_J7_fill_d0a16_6 X d n (zpV (fun σ' => Fr (fun b i => b = 51) σ σ' ∧ ∀ i, i < 3 → gL σ' 51 i = 0)) 51 3 (0 : Int64) (j : Int) ((3 : Nat) : Int) τ) (I := fun j τ => Fr (fun b i => b = 51) σ τ ∧ ∀ i, i < j → gL τ 51 i = 0) ?_ ?_ 0 σ (by omega) ⟨Fr.rf, fun i hi => by omega⟩
  · simpa using this
  · rintro τ ⟨f, b⟩
    exact b_J7_fill_d0a16_6 hn (by omega) sh_51 ⟨fun _ => ⟨f, b⟩, fun q => by omega⟩
  · rintro j τ hj ⟨f, b⟩ ih
    refine b_J7_fill_d0a16_6 hn (by omega) sh_51 ⟨fun q => by omega, fun _ => ⟨by omega, ⟨by omega, by omega⟩, ?_⟩⟩
    rw [show ((j : Int)).toNat = j by omega]
    have := ih (sL τ 51 j 0) ⟨f.sL rfl, fun i hi => ?_⟩
    · simpa using this
    · by_cases e : i = j
      · rw [e, gL_same]
      · rw [gL_f e]; exact b i (by omega)
/-- a node's context in the class -/
def CxC (σ : ZSto) (t k m : Nat) (c bh ko : Int) (T : ATr) (z : Nat) : Prop := gP σ 49 4 = some t ∧ (∃ m' c', CTr σ t m' k c' T ∧ (0 < k → m' = m ∧ c' = c)) ∧ BPre σ 41 ∧ gI σ 49 11 = bh ∧ gI σ 49 12 = (z : Int) ∧ gI σ 49 5 = ko ∧ gI σ 49 7 = 2
theorem CxC.kept {σ σ' : ZSto} {t k m z : Nat} {c bh ko : Int} {T : ATr} {W : Nat → Nat → Prop} (ht : zIsT t) (h : CxC σ t k m c bh ko T z) (hf : Fr W σ σ') (hw : ∀ a j, W a j → a = 51 ∨ (a = t ∧ (j = 13 ∨ j = 14)) ∨ (a = 49 ∧ (j = 6 ∨ j = 8 ∨ j = 9 ∨ j = 13 ∨ j = 14 ∨ j = 15))) (hr : 0 < k → gI σ' t 13 = (m : Int) ∧ gI σ' t 14 = c) (hr2 : ∃ m' : Nat, gI σ' t 13 = (m' : Int)) : CxC σ' t k m c bh ko T z := by
  have ht2 : t = 1 ∨ t = 15 := ht
  obtain ⟨h1, ⟨m', c', h2, h2'⟩, h3, h4, h5, h6, h7⟩ := h
  obtain ⟨m2, em2⟩ := hr2
  refine ⟨by rw [hf.P (fun q => by have := hw _ _ q; omega)]; exact h1, ⟨m2, gI σ' t 14, h2.sz hf (fun a i q1 q2 q3 => by have := hw _ _ q3; omega) (fun q => by have := hw _ _ q; omega) em2 rfl (fun q => ?_), fun q => ?_⟩, h3.kept2 hf (fun a i q q2 => by have := hw _ _ q2; unfold brdX at q; omega), by rw [hf.I (fun q => by have := hw _ _ q; omega)]; exact h4, by rw [hf.I (fun q => by have := hw _ _ q; omega)]; exact h5, by rw [hf.I (fun q => by have := hw _ _ q; omega)]; exact h6, by rw [hf.I (fun q => by have := hw _ _ q; omega)]; exact h7⟩
  · obtain ⟨q1, q2⟩ := hr q
    obtain ⟨q3, q4⟩ := h2' q
    exact ⟨by omega, by rw [q2, q4]⟩
  · obtain ⟨q1, q2⟩ := hr q
    exact ⟨by omega, q2⟩
theorem nd_settle (hn : 73 ≤ n) {t k m z q : Nat} {c bh ko : Int} {T : ATr} {x : ND} {σ0 σ : ZSto} (ht : zIsT t) (hCx : CxC σ t k m c bh ko T z) (hx : NDI k m c x) (hTL : TLs (nTold x) x) (hN : NdC σ t x) (hW : TW m k T) (hk : k < 250) (hb : BhOk k bh) (hz : z ≤ 1500) (hko : R32 ko) (h8 : NoF σ) (h6 : gI σ 49 6 = (q : Int)) (hg : gI σ 41 10 < 1999990000) (hf : Fr (ndW t) σ0 σ) (hg0 : gI σ 41 10 = gI σ0 41 10) {res : (Int × Nat) ⊕ (Nat × ND × ATr)} (hr : res = match stF ko k bh T x with | .inl e => .inl (e, z) | .inr T' => .inr (q, x, T')) :
    (nMvr x = 0 → ZkV X M_X5_settleSets (d + 5) n [.ref (zB X + 49)] σ (fun σ' => Fr (ndW t) σ0 σ' ∧ BPre σ' 41 ∧ gI σ' 41 10 ≤ gI σ0 41 10 + 100 ∧ NrR σ' t k res ∧ gI σ' 49 7 = 2)) ∧ (¬ nMvr x = 0 → ZkV X M_X5_settleMove (d + 5) n [.ref (zB X + 49)] σ (fun σ' => Fr (ndW t) σ0 σ' ∧ BPre σ' 41 ∧ gI σ' 41 10 ≤ gI σ0 41 10 + 100 ∧ NrR σ' t k res ∧ gI σ' 49 7 = 2)) := by
  have ht2 : t = 1 ∨ t = 15 := ht
  obtain ⟨p4, ⟨m', c', hC', he'⟩, hB, e11, e12, e5, e7⟩ := hCx
  have hC : CTr σ t (nSz x) k (nKm x) T := hC'.sz (W := fun _ _ => False) Fr.rf (fun a i _ _ q => q) (fun q => q) hN.2.2.2.2.1 hN.2.2.2.2.2 (fun q => by
    obtain ⟨q1, q2⟩ := he' q
    obtain ⟨q3, q4⟩ := hx.2.2.1 q
    exact ⟨by omega, by rw [q4, q2]⟩)
  have hW' : TW (nSz x) k T := hW.sz hx.1 (fun q => (hx.2.2.1 q).1)
  have fin : ∀ σ', (Fr (stW t) σ σ' ∧ BPre σ' 41 ∧ gI σ' 41 10 ≤ gI σ 41 10 + 100 ∧ StR σ' t k (nSz x) (nKm x) z (stF ko k bh T x)) → Fr (ndW t) σ0 σ' ∧ BPre σ' 41 ∧ gI σ' 41 10 ≤ gI σ0 41 10 + 100 ∧ NrR σ' t k res ∧ gI σ' 49 7 = 2 := by
    rintro σ' ⟨f1, b1, g1, s1⟩
    refine ⟨hf.tr (f1.mono (fun a j y => by unfold stW brdW at y; unfold ndW brdW; omega)), b1, by omega, ?_, by rw [f1.I (by unfold stW brdW; omega)]; exact e7⟩
    rw [hr]
    cases hst : stF ko k bh T x with
    | inl e => rw [hst] at s1; exact s1
    | inr T' =>
      rw [hst] at s1
      exact ⟨s1.1, by rw [f1.I (by unfold stW brdW; omega)]; exact h6, s1.2.1, s1.2.2⟩
  refine ⟨fun y => (sp_settleSets hn ht p4 hx rfl hTL hN hC hW' hk hB hb e11 e12 hz h8 y hg).mono (fun σ' h => fin σ' h), fun y => (sp_settleMove hn ht p4 hx rfl hN hC hW' hk hB hb e11 e12 hz e5 hko h8 y hg).mono (fun σ' h => fin σ' h)⟩
theorem nd_loop (hn : 73 ≤ n) {t k m z : Nat} {c bh ko : Int} {T : ATr} {σ0 : ZSto} (ht : zIsT t) (hT0 : TpC σ0 B L) (hW : TW m k T) (hk : k < 250) (hb : BhOk k bh) (hz : z ≤ 1500) (hko : R32 ko) (hg : gI σ0 41 10 < 1999990000) {res : (Int × Nat) ⊕ (Nat × ND × ATr)} : ∀ (w q r : Nat) (x : ND) (σ : ZSto), L - q ≤ w → r ≤ q → q ≤ L → Fr (ndW t) σ0 σ → gI σ 41 10 = gI σ0 41 10 → CxC σ t k m c bh ko T z → NDI k m c x → TLs (nTold x) x → 4 * CtS x ≤ q → NdC σ t x → gI σ 49 6 = (q : Int) → NoF σ → res = (match psF B L (decide (k = 0)) w q x with | .inl f => .inl f | .inr r => match stF ko k bh T r.2 with | .inl e => .inl (e, z) | .inr T' => .inr (r.1, r.2, T')) → L_X5_readNode_76 X (d + 5) n (zpV (fun σ' => Fr (ndW t) σ0 σ' ∧ BPre σ' 41 ∧ gI σ' 41 10 ≤ gI σ0 41 10 + 100 ∧ NrR σ' t k res ∧ gI σ' 49 7 = 2)) (r : Int) σ := by
  have ht2 : t = 1 ∨ t = 15 := ht
  intro w
  induction w with
  | zero =>
    intro q r x σ hw hr hqL hf hg0 hCx hx hTL hct hN h6 h8 he
    have hT := hT0.kept hf (fun i => by unfold ndW brdW; omega) (by unfold ndW brdW; omega)
    have hL := hT.2.1
    rw [psF_e (by omega)] at he
    obtain ⟨k1, k2⟩ := nd_settle (X := X) (d := d) hn ht hCx hx hTL hN hW hk hb hz hko h8 h6 (by omega) hf hg0 he
    have e14 := hN.2.1
    refine b_X5_readNode_76 hn ?_
    rw [h8.1, e14]
    refine ⟨fun _ => ⟨fun y => absurd rfl y, fun _ => ⟨fun y => ⟨fun y2 => absurd rfl y2, fun _ => k2 y⟩, fun y => k1 y⟩⟩, fun _ => ⟨fun y => absurd rfl y, fun _ => ?_⟩⟩
    rw [h6]
    refine (sp_byte hn hT q (by omega)).mono ?_
    rintro b _ - ⟨rfl, hb'⟩
    refine (sp_isGreat hn ⟨by omega, by omega⟩).mono ?_
    rintro g _ - ⟨rfl, hg'⟩
    rw [h8.1, e14]
    exact ⟨fun _ => ⟨fun y => absurd rfl y, fun _ => ⟨fun y => ⟨fun y2 => absurd rfl y2, fun _ => k2 y⟩, fun y => k1 y⟩⟩, fun y => by omega⟩
  | succ w ih =>
    intro q r x σ hw hr hqL hf hg0 hCx hx hTL hct hN h6 h8 he
    have hT := hT0.kept hf (fun i => by unfold ndW brdW; omega) (by unfold ndW brdW; omega)
    have hL := hT.2.1
    have e14 := hN.2.1
    have stop : ¬ (q < L ∧ (65 ≤ B q ∧ B q ≤ 90)) → (nMvr x = 0 → ZkV X M_X5_settleSets (d + 5) n [.ref (zB X + 49)] σ (fun σ' => Fr (ndW t) σ0 σ' ∧ BPre σ' 41 ∧ gI σ' 41 10 ≤ gI σ0 41 10 + 100 ∧ NrR σ' t k res ∧ gI σ' 49 7 = 2)) ∧ (¬ nMvr x = 0 → ZkV X M_X5_settleMove (d + 5) n [.ref (zB X + 49)] σ (fun σ' => Fr (ndW t) σ0 σ' ∧ BPre σ' 41 ∧ gI σ' 41 10 ≤ gI σ0 41 10 + 100 ∧ NrR σ' t k res ∧ gI σ' 49 7 = 2)) := by
      intro hno
      rw [psF_e hno] at he
      exact nd_settle (X := X) (d := d) hn ht hCx hx hTL hN hW hk hb hz hko h8 h6 (by omega) hf hg0 he
    refine b_X5_readNode_76 hn ?_
    rw [h8.1, e14]
    refine ⟨fun y0 => ⟨fun y => absurd rfl y, fun _ => ⟨fun y => ⟨fun y2 => absurd rfl y2, fun _ => (stop (by omega)).2 y⟩, fun y => (stop (by omega)).1 y⟩⟩, fun _ => ⟨fun y => absurd rfl y, fun _ => ?_⟩⟩
    rw [h6]
    refine (sp_byte hn hT q (by omega)).mono ?_
    rintro b _ - ⟨rfl, hb'⟩
    have hrb : R32 b := by
      rcases hb' with u | u
      · have := (hT.2.2 q u.1).2; exact ⟨by omega, by omega⟩
      · exact ⟨by omega, by omega⟩
    refine (sp_isGreat hn hrb).mono ?_
    rintro g _ - ⟨rfl, hg'⟩
    rw [h8.1, e14]
    refine ⟨fun y0 => ⟨fun y => absurd rfl y, fun _ => ⟨fun y => ⟨fun y2 => absurd rfl y2, fun _ => (stop (by omega)).2 y⟩, fun y => (stop (by omega)).1 y⟩⟩, fun y0 => ?_⟩
    have hcond : q < L ∧ (65 ≤ B q ∧ B q ≤ 90) := by omega
    obtain ⟨p4, ⟨m', c', hC', he'⟩, hB, e11, e12, e5, e7⟩ := id hCx
    refine (sp_readProperty hn ht hT p4 hC'.2.2.1 hx hTL hN hcond.1 h6 h8).mono ?_
    rintro σ1 ⟨f1, R1⟩
    have F1 : Fr (ndW t) σ0 σ1 := hf.tr (f1.mono (fun a j y => by unfold prW vlW at y; unfold ndW; omega))
    have hT1 := hT0.kept F1 (fun i => by unfold ndW brdW; omega) (by unfold ndW brdW; omega)
    have g1 : gI σ1 41 10 = gI σ0 41 10 := by rw [f1.I (by unfold prW vlW; omega)]; exact hg0
    have rr : R32 ((r : Int) + 1) := ⟨by omega, by omega⟩
    rw [psF_s hcond] at he
    cases hv : prF B L (decide (k = 0)) q x with
    | inl f =>
      rw [hv] at R1 he
      obtain ⟨r1, r2, r3, r4⟩ := R1
      obtain ⟨p, hpp⟩ : ∃ p : Nat, gI σ1 49 6 = (p : Int) := ⟨(gI σ1 49 6).toNat, by omega⟩
      refine (sp_skip hn L p σ1 hT1 (by omega) (by omega) hpp).mono ?_
      rintro σ2 ⟨f2, e2⟩
      have hne : ¬ gI σ2 49 8 = 0 := by rw [f2.I (by omega), r1]; exact r3
      have fin : Fr (ndW t) σ0 σ2 ∧ BPre σ2 41 ∧ gI σ2 41 10 ≤ gI σ0 41 10 + 100 ∧ NrR σ2 t k res ∧ gI σ2 49 7 = 2 := by
        refine ⟨F1.tr (f2.mono (fun a j y => by unfold ndW; omega)), (hB.kept2 f1 (fun a i y => by unfold brdX at y; unfold prW vlW; omega)).kept2 f2 (fun a i y => by unfold brdX at y; omega), by rw [f2.I (by omega)]; omega, ?_, by rw [f2.I (by omega), f1.I (by unfold prW vlW; omega)]; exact e7⟩
        rw [he]
        exact ⟨by rw [f2.I (by omega)]; exact r1, by rw [f2.I (by omega)]; exact r2, r3⟩
      exact ⟨rr, b_X5_readNode_76 hn ⟨fun _ => ⟨fun _ => ⟨fun _ => fin, fun y => absurd y hne⟩, fun y => absurd y hne⟩, fun _ => ⟨fun _ => ⟨fun _ => ⟨fun _ => fin, fun y => absurd y hne⟩, fun y => absurd y hne⟩, fun y => absurd y hne⟩⟩⟩
    | inr rr2 =>
      rw [hv] at R1 he
      obtain ⟨r1, r2, r3⟩ := R1
      obtain ⟨q1, y1⟩ := rr2
      simp only at r2 r3 he
      obtain ⟨k1, k2, k3, k4, k5⟩ := prF_inv (base := 0) (B := B) (L := L) (c := c) (m := m) (k := k) (i := q) (x := x) (q' := q1) (y := y1) hx hTL (by omega) (by omega) hv
      refine (sp_skip hn L q1 σ1 hT1 (by omega) (by omega) r2).mono ?_
      rintro σ2 ⟨f2, e2⟩
      have hs := skp_ge (B := B) (L := L) q1
      refine ⟨rr, ?_⟩
      have C1 : CxC σ1 t k m c bh ko T z := hCx.kept ht f1 (fun a j y => by unfold prW vlW at y; omega) (fun y => ⟨by rw [r3.2.2.2.2.1, (k1.2.2.1 y).1], by rw [r3.2.2.2.2.2, (k1.2.2.1 y).2]⟩) ⟨_, r3.2.2.2.2.1⟩
      have N2 : NdC σ2 t y1 := r3.kept f2 ⟨by omega, by omega, by omega, by omega, by omega, fun w => by omega⟩
      have C2 : CxC σ2 t k m c bh ko T z := C1.kept ht f2 (fun a j y => by omega) (fun y => ⟨by rw [N2.2.2.2.2.1, (k1.2.2.1 y).1], by rw [N2.2.2.2.2.2, (k1.2.2.1 y).2]⟩) ⟨_, N2.2.2.2.2.1⟩
      have := ih (skp B L q1) (r + 1) y1 σ2 (by omega) (by omega) (hs.2 k5) (F1.tr (f2.mono (fun a j y => by unfold ndW; omega))) (by rw [f2.I (by omega)]; exact g1) C2 k1 k2 (by omega) N2 (by rw [e2]; rfl) (r1.kept f2 (by omega) (by omega)) he
      simpa using this
end ZC
