theorem skF_stop {B : Nat → Int} {L : Nat} : ∀ (w i : Nat), L - i ≤ w → ¬ (skF B L w i < L ∧ (B (skF B L w i) = 32 ∨ B (skF B L w i) = 10 ∨ B (skF B L w i) = 13)) := by
  intro w
  induction w with
  | zero =>
    intro i hw h
    have : i < L := h.1
    omega
  | succ w ih =>
    intro i hw
    unfold skF
    by_cases hc : i < L ∧ (B i = 32 ∨ B i = 10 ∨ B i = 13)
    · rw [if_pos hc]; exact ih (i + 1) (by omega)
    · rw [if_neg hc]; exact hc
theorem skp_idem {B : Nat → Int} {L : Nat} (i : Nat) : skp B L (skp B L i) = skp B L i := by
  have h := skF_stop (B := B) (L := L) L i (by omega)
  show skF B L L (skp B L i) = skp B L i
  cases L with
  | zero => rfl
  | succ l =>
    show (if skp B (l + 1) i < l + 1 ∧ (B (skp B (l + 1) i) = 32 ∨ B (skp B (l + 1) i) = 10 ∨ B (skp B (l + 1) i) = 13) then _ else _) = _
    exact if_neg h
theorem mnF_skp {B : Nat → Int} {L : Nat} {ko : Int} {w i st : Nat} {stk : List Int} {bh : Int} {k : Nat} {T : ATr} {m : Nat} {c : Int} : mnF B L ko (w + 1) (skp B L i) st stk bh k T m c = mnF B L ko (w + 1) i st stk bh k T m c := by
  unfold mnF
  rw [skp_idem]
section ZQ
variable {X : ZX} {d n : Nat} {B : Nat → Int} {L : Nat}
theorem am_loop (hn : 104 ≤ n) {g k m z : Nat} {c bh ko : Int} {T : ATr} {σ0 : ZSto} (hg : g < 2) (hk : k < 250) (hT0 : TpM σ0 B L) (hW : TW m k T) (hb : BhOk k bh) (hz : z ≤ 1500) {res : (Int × Nat) ⊕ (Nat × ND × ATr)} : ∀ (w q : Nat) (x : ND) (σ : ZSto), L - q ≤ w → q ≤ L → Fr (anW g k) σ0 σ → CxM σ g k bh ko T → NDI k m c x → TLs (nTold x) x → 4 * CtS x ≤ q → NdM σ g k x → gI σ 73 24 = (q : Int) → NoM σ → res = (match psF B L (decide (k = 0)) w q x with | .inl f => .inl f | .inr r => match stF ko k bh T r.2 with | .inl e => .inl (e, z) | .inr T' => .inr (r.1, r.2, T')) → L_X10_aNode_60 X (d + 5) n (zpZ (fun v σ' => Fr (anW g k) σ0 σ' ∧ NrM σ' g k v res)) (z : Int) ((250 * g + k : Nat) : Int) σ := by
  intro w
  induction w with
  | zero =>
    intro q x σ hw hqL hf hC hx hTL hct hN h24 hNo he
    have hT := hT0.kept hf (fun i => by unfold anW; omega) (by unfold anW; omega)
    rw [psF_e (by omega)] at he
    have fin := am_95 (X := X) (d := d + 1) hn hg hk hC (hW.sz hx.1 (fun y => (hx.2.2.1 y).1)) hb hx hN hNo h24 hz hf he
    refine b_X10_aNode_60 hn ((sm_see hn hT h24).mono ?_)
    rintro b _ - ⟨rfl, hb1⟩
    refine ⟨fun _ => fin, fun y => (sm_see hn hT h24).mono ?_⟩
    rintro b2 _ - ⟨rfl, hb2⟩
    exact ⟨fun _ => fin, fun y => by omega⟩
  | succ w ih =>
    intro q x σ hw hqL hf hC hx hTL hct hN h24 hNo he
    have hT := hT0.kept hf (fun i => by unfold anW; omega) (by unfold anW; omega)
    have hL := hT.2.1
    have stop : ¬ (q < L ∧ (65 ≤ B q ∧ B q ≤ 90)) → L_X10_aNode_95 X (d + 5) n (zpZ (fun v σ' => Fr (anW g k) σ0 σ' ∧ NrM σ' g k v res)) (z : Int) ((250 * g + k : Nat) : Int) σ := by
      intro hno
      rw [psF_e hno] at he
      exact am_95 (X := X) (d := d + 1) hn hg hk hC (hW.sz hx.1 (fun y => (hx.2.2.1 y).1)) hb hx hN hNo h24 hz hf he
    refine b_X10_aNode_60 hn ((sm_see hn hT h24).mono ?_)
    rintro b _ - ⟨rfl, hb1⟩
    refine ⟨fun y => stop (by omega), fun y => (sm_see hn hT h24).mono ?_⟩
    rintro b2 _ - ⟨rfl, hb2⟩
    refine ⟨fun y2 => stop (by omega), fun y2 => ?_⟩
    have hcond : q < L ∧ (65 ≤ B q ∧ B q ≤ 90) := by omega
    clear stop
    refine (sm_property hn hg hk hT hC.2.2.2.2.1 hb hC.2.2.1 hx hTL hN hcond.1 h24 hNo).mono ?_
    rintro v σ1 - ⟨f1, R1⟩
    have F1 : Fr (anW g k) σ0 σ1 := hf.tr (f1.mono (fun a j y => by unfold pmW vmW at y; unfold anW; omega))
    rw [psF_s hcond] at he
    cases hv : prF B L (decide (k = 0)) q x with
    | inl f =>
      rw [hv] at R1 he
      obtain ⟨rfl, r1, r2, r3⟩ := R1
      refine ⟨fun u => absurd rfl u, fun _ => ⟨F1, ?_⟩⟩
      rw [he]
      exact ⟨rfl, r1, r2, r3⟩
    | inr rr =>
      obtain ⟨q1, y1⟩ := rr
      rw [hv] at R1 he
      obtain ⟨rfl, r1, r2, r3⟩ := R1
      simp only at r2 r3 he
      obtain ⟨k1, k2, k3, k4, k5⟩ := prF_inv (base := 0) (B := B) (L := L) (c := c) (m := m) (k := k) (i := q) (x := x) (q' := q1) (y := y1) hx hTL (by omega) (by omega) hv
      refine ⟨fun _ => ?_, fun u => by omega⟩
      refine (sm_blanks hn L q1 σ1 (hT0.kept F1 (fun i => by unfold anW; omega) (by unfold anW; omega)) (by omega) (by omega) r2).mono ?_
      rintro σ2 ⟨f2, e2⟩
      have hs := skp_ge (B := B) (L := L) q1
      exact ih (skp B L q1) y1 σ2 (by omega) (hs.2 k5) (F1.tr (f2.mono (fun a j y => by unfold anW; omega))) ((hC.kept hk f1 (fun a j y => by unfold pmW vmW at y; omega)).kept hk f2 (fun a j y => by omega)) k1 k2 (by omega) (r3.kept f2 (fun a j y => by omega)) e2 (r1.kept f2 (by omega) (by omega)) he
/-- where the reference stands between the pieces -/
def StM (σ : ZSto) (g : Nat) : List Int → Prop
  | [] => True
  | y :: ys => gI σ 89 ys.length = mX g y ∧ StM σ g ys
theorem StM.kept {W : Nat → Nat → Prop} {σ σ' : ZSto} {g : Nat} (hf : Fr W σ σ') : ∀ {l : List Int}, StM σ g l → (∀ i, i < l.length → ¬ W 89 i) → StM σ' g l := by
  intro l
  induction l with
  | nil => intro _ _; trivial
  | cons y ys ih =>
    rintro ⟨h1, h2⟩ hw
    exact ⟨by rw [hf.I (hw _ (by simp))]; exact h1, ih h2 (fun i hi => hw i (by simp; omega))⟩
def RdM (σ : ZSto) (g : Nat) (ko : Int) (i : Nat) (stk : List Int) (bh : Int) (k : Nat) (T : ATr) (m : Nat) (c : Int) : Prop :=
  gI σ 73 28 = (g : Int) ∧ gI σ 73 12 = ko ∧ gI σ 73 24 = (i : Int) ∧ NoM σ ∧ gI σ 73 26 = (stk.length : Int) ∧ gI σ 73 27 = mX g bh ∧ StM σ g stk ∧ MTr σ g m k c T ∧ gI σ 73 13 = (m : Int)
theorem sm_aNode (hn : 104 ≤ n) {g k m i st : Nat} {stk : List Int} {c bh ko : Int} {T : ATr} {σ : ZSto} (hg : g < 2) (hT : TpM σ B L) (hR : RdM σ g ko i stk bh k T m c) (hPI : PI st stk bh k T m c i) (hst : st = 1 ∨ st = 2) (hi : i < L) (hk : k < 250) :
    ZkZ X M_X10_aNode (d + 6) n [.ref (zB X + 73)] σ (fun v σ' => Fr (anW g k) σ σ' ∧ NrM σ' g k v (ndR B L ko i bh k T m c)) := by
  have hL := hT.2.1
  obtain ⟨r1, r2, r3, r4, r5, r6, r7, r8, r9⟩ := hR
  obtain ⟨a1, a2, a3, a4, a5, a6, a7, a8, a9, a10, a11⟩ := hPI
  have hb := a6 (by omega)
  have hbr := hb.r
  have tg : ((g : Int)).toNat = g := by omega
  have mxr : R32 (mX g bh) := by unfold mX; split <;> exact ⟨by omega, by omega⟩
  refine w_X10_aNode hn (fun y1 ey => ?_)
  rw [r3] at ey
  subst ey
  rw [r1, tg, r8.2.2.1, r6, r3]
  refine ⟨by omega, fun _ => ⟨⟨by omega, by omega⟩, ?_⟩, fun y => by omega⟩
  have fs : Fr (fun a j => a = 73 ∧ j = 24) σ (sI σ 73 24 ((i : Int) + 1)) := Fr.rf.sI ⟨rfl, rfl⟩
  have t24 : gI (sI σ 73 24 ((i : Int) + 1)) 73 24 = ((i + 1 : Nat) : Int) := by rw [gI_same]; omega
  generalize sI σ 73 24 ((i : Int) + 1) = σ1 at fs t24
  refine (sm_comes hn hg (k := k) (by rw [fs.I (by omega)]; exact r8.2.2.1) hk mxr).mono ?_
  rintro v σ2 - ⟨rfl, f2, v0, v1, v2, v3, v4, vs, e81⟩
  have f3 : Fr (fun a j => a = 73 ∧ j = 29) σ2 (sI σ2 73 29 0) := Fr.rf.sI ⟨rfl, rfl⟩
  have s29 : gI (sI σ2 73 29 0) 73 29 = 0 := gI_same _ _ _ _
  generalize sI σ2 73 29 0 = σ3 at f3 s29
  have F3 : Fr (anW g k) σ σ3 := ((fs.mono (W' := anW g k) (fun a j y => by unfold anW; omega)).tr (f2.mono (fun a j y => by unfold anW; omega))).tr (f3.mono (fun a j y => by unfold anW; omega))
  refine (sm_blanks hn L (i + 1) σ3 (hT.kept F3 (fun i => by unfold anW; omega) (by unfold anW; omega)) (by omega) (by omega) (by rw [f3.I (by omega), f2.I (by omega)]; exact t24)).mono ?_
  rintro σ4 ⟨f4, e4⟩
  have F4 : Fr (anW g k) σ σ4 := F3.tr (f4.mono (fun a j y => by unfold anW; omega))
  have G4 : Fr (fun a j => ((74 ≤ a ∧ a ≤ 78) ∧ j = 250 * g + k) ∨ (a = 80 ∧ 81 * (250 * g + k) ≤ j) ∨ (a = 81 ∧ j = g) ∨ (a = 73 ∧ (j = 24 ∨ j = 29))) σ σ4 := (((fs.mono (fun a j y => by omega)).tr (f2.mono (fun a j y => by omega))).tr (f3.mono (fun a j y => by omega))).tr (f4.mono (fun a j y => by omega))
  have back : ∀ a j, ¬ (a = 73) → gI σ4 a j = gI σ2 a j := fun a j y => by rw [f4.I (by omega), f3.I (by omega)]
  obtain ⟨i1, i2, i3⟩ := nd0_i (k := k) (m := m) (c := c) a1 a2
  have hsk := skp_ge (B := B) (L := L) (i + 1)
  have N4 : NdM σ4 g k (nd0 m c) := by
    refine ⟨by rw [f4.I (by omega)]; exact s29, by rw [back 75 _ (by omega)]; exact v1, by rw [back 76 _ (by omega)]; exact v2, by rw [back 77 _ (by omega)]; exact v3, fun p hp => by rw [back 80 _ (by omega)]; exact vs p hp, by rw [G4.I (by omega)]; exact r9, by rw [G4.I (by omega)]; exact r8.1, by rw [G4.I (by omega)]; exact r8.2.1⟩
  have C4 : CxM σ4 g k bh ko T := by
    refine ⟨fun j hj => (r8.2.2.2 j hj).kept G4 (fun a q1 q2 q3 => by omega) (fun a p q1 q2 q3 => by omega), by rw [back 81 _ (by omega)]; exact e81, by rw [back 74 _ (by omega)]; exact v0, by rw [back 78 _ (by omega)]; exact v4, by rw [G4.I (by omega)]; exact r1, by rw [G4.I (by omega)]; exact r2⟩
  exact am_loop (X := X) (d := d) (σ0 := σ) hn hg hk hT a3 hb (show i ≤ 1500 by omega) (res := ndR B L ko i bh k T m c) L (skp B L (i + 1)) (nd0 m c) σ4 (by omega) (hsk.2 (by omega)) F4 C4 i1 i2 (by rw [i3]; omega) N4 e4 (r4.kept G4 (by omega) (by omega)) rfl
end ZQ
