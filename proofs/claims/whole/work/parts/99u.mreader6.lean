def anW (g k a j : Nat) : Prop := ((74 ≤ a ∧ a ≤ 78) ∧ j = 250 * g + k) ∨ ((a = 79 ∨ a = 80) ∧ 81 * (250 * g + k) ≤ j ∧ j < 81 * (250 * g + k) + 81) ∨ ((a = 81 ∨ a = 82 ∨ a = 83) ∧ j = g) ∨ (84 ≤ a ∧ a ≤ 87) ∨ (a = 73 ∧ (j = 13 ∨ j = 18 ∨ j = 21 ∨ j = 22 ∨ j = 24 ∨ j = 27 ∨ j = 29))
def NrM (σ : ZSto) (g k : Nat) (v : Int) : (Int × Nat) ⊕ (Nat × ND × ATr) → Prop
  | .inl f => v = 0 ∧ gI σ 73 21 = f.1 ∧ gI σ 73 22 = (f.2 : Int) ∧ ¬ f.1 = 0
  | .inr r => v = 1 ∧ NoM σ ∧ gI σ 73 24 = (r.1 : Int) ∧ gI σ 73 27 = ((250 * g + k : Nat) : Int) ∧ gI σ 73 13 = (nSz r.2.1 : Int) ∧ MTr σ g (nSz r.2.1) (k + 1) (nKm r.2.1) r.2.2
/-- a node's context in the reference -/
def CxM (σ : ZSto) (g k : Nat) (bh ko : Int) (T : ATr) : Prop := (∀ i, i < k → MRn σ g T i) ∧ gI σ 81 g = (k : Int) + 1 ∧ gI σ 74 (250 * g + k) = mX g bh ∧ gI σ 78 (250 * g + k) = 0 ∧ gI σ 73 28 = (g : Int) ∧ gI σ 73 12 = ko
theorem CxM.kept {W : Nat → Nat → Prop} {σ σ' : ZSto} {g k : Nat} {bh ko : Int} {T : ATr} (h : CxM σ g k bh ko T) (hk : k < 250) (hf : Fr W σ σ') (hw : ∀ a j, W a j → ((75 ≤ a ∧ a ≤ 77) ∧ j = 250 * g + k) ∨ ((a = 79 ∨ a = 80) ∧ 81 * (250 * g + k) ≤ j) ∨ a = 82 ∨ a = 83 ∨ (84 ≤ a ∧ a ≤ 87) ∨ (a = 73 ∧ ¬ j = 28 ∧ ¬ j = 12)) : CxM σ' g k bh ko T := by
  obtain ⟨h1, h2, h3, h4, h5, h6⟩ := h
  refine ⟨fun i hi => (h1 i hi).kept hf (fun a q1 q2 q3 => by have := hw _ _ q3; omega) (fun a p q1 q2 q3 => by have := hw _ _ q3; omega), by rw [hf.I (fun q => by have := hw _ _ q; omega)]; exact h2, by rw [hf.I (fun q => by have := hw _ _ q; omega)]; exact h3, by rw [hf.I (fun q => by have := hw _ _ q; omega)]; exact h4, by rw [hf.I (fun q => by have := hw _ _ q; omega)]; exact h5, by rw [hf.I (fun q => by have := hw _ _ q; omega)]; exact h6⟩
theorem MTr.mk2 {σ' : ZSto} {g m k : Nat} {c x a1 a2 a3 a4 a5 a6 : Int} {T : ATr} {br st : Nat → Int} (h1 : ∀ i, i < k → MRn σ' g T i) (e82 : gI σ' 82 g = (m : Int)) (e83 : gI σ' 83 g = c) (e81 : gI σ' 81 g = (k : Int) + 1) (v0 : gI σ' 74 (250 * g + k) = mX g x) (v1 : gI σ' 75 (250 * g + k) = a1) (v2 : gI σ' 76 (250 * g + k) = a2) (v3 : gI σ' 77 (250 * g + k) = a3) (v4 : gI σ' 78 (250 * g + k) = a4) (vb : ∀ p, p < 81 → gI σ' 79 (81 * (250 * g + k) + p) = br p) (vs : ∀ p, p < 81 → gI σ' 80 (81 * (250 * g + k) + p) = st p) : MTr σ' g m (k + 1) c (addT T k x a1 a2 a3 a4 a5 a6 br st) := by
  refine ⟨e82, e83, by rw [e81]; omega, fun i hi => ?_⟩
  by_cases e : i = k
  · subst e
    obtain ⟨e1, e2, e3, e4, e5, e6, e7, e8, e9⟩ := addT_k (T := T) (k := i) (a0 := x) (a1 := a1) (a2 := a2) (a3 := a3) (a4 := a4) (a5 := a5) (a6 := a6) (br := br) (st := st)
    unfold MRn
    rw [e1, e2, e3, e4, e5, e8, e9]
    exact ⟨v0, v1, v2, v3, v4, vb, vs⟩
  · obtain ⟨e1, e2, e3, e4, e5, e6, e7, e8, e9⟩ := addT_n (T := T) (k := k) (a0 := x) (a1 := a1) (a2 := a2) (a3 := a3) (a4 := a4) (a5 := a5) (a6 := a6) (br := br) (st := st) e
    have := h1 i (by omega)
    unfold MRn at this ⊢
    rw [e1, e2, e3, e4, e5, e8, e9]
    exact this
section ZQ
variable {X : ZX} {d n : Nat} {B : Nat → Int} {L : Nat}
theorem am_move (hn : 104 ≤ n) {g k z q : Nat} {bh ko m0c : Int} {m0 : Nat} {T : ATr} {x : ND} {σ0 σ : ZSto} {res : (Int × Nat) ⊕ (Nat × ND × ATr)} (hg : g < 2) (hk : k < 250) (hC : CxM σ g k bh ko T) (hW : TW (nSz x) k T) (hb : BhOk k bh) (hx : NDI k m0 m0c x) (hN : NdM σ g k x) (hNo : NoM σ) (h24 : gI σ 73 24 = (q : Int)) (hmv : ¬ nMvr x = 0) (hf : Fr (anW g k) σ0 σ) (hr : res = match stF ko k bh T x with | .inl e => .inl (e, z) | .inr T' => .inr (q, x, T')) (hok : nPnt x = -1 ∨ Why (nSz x) T ko (bB T bh) bh (nPnt x).toNat (nMvr x) 0) (h27 : gI σ 73 27 = ((250 * g + k : Nat) : Int)) :
    ZkV X M_X10_moves (d + 4) n [.ref (zB X + 73), iV ((250 * g + k : Nat) : Int), iV (nPnt x), iV (nMvr x)] σ (fun σ' => Fr (anW g k) σ0 σ' ∧ NrM σ' g k 1 res) := by
  have hbr := hb.r
  obtain ⟨c1, c2, c3, c4, c5, c6⟩ := hC
  obtain ⟨n1, n2, n3, n4, n5, n6, n7, n8⟩ := hN
  have b7 : (nMvr x = 1 ∨ nMvr x = 2) ∧ (nPnt x = -1 ∨ (0 ≤ nPnt x ∧ nPnt x < ((nSz x * nSz x : Nat) : Int))) ∧ ∀ p, nSet x p = 3 := by
    rcases hx.2.2.2.2.2.2.1 with u | u
    · exact absurd u.1 hmv
    · exact ⟨u.1, u.2.1, u.2.2.2⟩
  refine (sm_moves hn hg c1 hW n6 b7.1 ⟨hbr.1, hbr.2.1⟩ (K := 250 * g + k) (by omega) (Nat.le_refl _) c3 b7.2.1).mono ?_
  rintro σ1 ⟨f1, v1, v2, v3, v4, vb⟩
  refine ⟨hf.tr (f1.mono (fun a j y => by unfold movW putW at y; unfold anW; omega)), ?_⟩
  have est : stF ko k bh T x = .inr (addT T k bh (if nPnt x = -1 then 2 else 1) (nMvr x) (nPnt x) (if nPnt x = -1 then 0 else ((cnt (Dies (nSz x) (bB T bh) (nPnt x).toNat (nMvr x)) (nSz x * nSz x) : Nat) : Int)) (3 - nMvr x) (if bh < 0 then 0 else tDep T bh.toNat + 1) (if nPnt x = -1 then bB T bh else putB (nSz x) (bB T bh) (nPnt x).toNat (nMvr x)) (fun _ => 3)) := by
    unfold stF; rw [if_neg hmv, iteP_t hok]
  rw [hr, est]
  have e : ∀ a j, ¬ movW (250 * g + k) a j → gI σ1 a j = gI σ a j := fun a j y => f1.I y
  refine ⟨rfl, hNo.kept f1 (by unfold movW putW; omega) (by unfold movW putW; omega), by rw [e 73 24 (by unfold movW putW; omega)]; exact h24, by rw [e 73 27 (by unfold movW putW; omega)]; exact h27, by rw [e 73 13 (by unfold movW putW; omega)]; exact n6, ?_⟩
  refine MTr.mk2 (fun i hi => (c1 i hi).kept f1 (fun a q1 q2 => by unfold movW putW; omega) (fun a p q1 q2 => by unfold movW putW; omega)) (by rw [e 82 _ (by unfold movW putW; omega)]; exact n7) (by rw [e 83 _ (by unfold movW putW; omega)]; exact n8) (by rw [e 81 _ (by unfold movW putW; omega)]; exact c2) (by rw [e 74 _ (by unfold movW putW; omega)]; exact c3) v1 v2 v3 (by rw [v4]; split <;> rfl) vb (fun p hp => ?_)
  rw [e 80 _ (by unfold movW putW; omega), n5 p hp]
  exact b7.2.2 p
theorem am_186 (hn : 104 ≤ n) {m z : Nat} {bd : Nat → Int} {σ0 : ZSto} {P : Int → ZSto → Prop} (h3 : 3 ≤ m) (h9 : m ≤ 9) (hm : gI σ0 73 13 = (m : Int)) (hw : WAll σ0 bd) (hcon : BCon m bd) (hz : z ≤ 1500)
    (hY : Alive m bd → ∀ τ, Fr fldW σ0 τ → P 1 τ) (hNo : ¬ Alive m bd → ∀ τ, Fr fldW σ0 τ → ZkZ X M_X10_fault (d + 2) n [.ref (zB X + 73), iV 5, iV (z : Int)] τ P) :
    ∀ (j : Nat) (τ : ZSto), j ≤ m * m → (Fr fldW σ0 τ ∧ ∀ p, p < j → bd p ≠ 0 → ∃ x, Lib m bd p x) → L_X10_aNode_186 X (d + 2) n (zpZ P) (z : Int) (j : Int) τ := by
  have hN := sq_le h9
  have mm : (m : Int) * (m : Int) = ((m * m : Nat) : Int) := by simp
  refine upto (N := m * m) (Q := fun j τ => L_X10_aNode_186 X (d + 2) n (zpZ P) (z : Int) (j : Int) τ) (I := fun j τ => Fr fldW σ0 τ ∧ ∀ p, p < j → bd p ≠ 0 → ∃ x, Lib m bd p x) ?_ ?_
  · rintro τ ⟨f, b⟩
    refine b_X10_aNode_186 hn ?_
    rw [f.I (show ¬ fldW 73 13 by unfold fldW; omega), hm, mm]
    exact ⟨⟨by omega, by omega⟩, fun _ => hY b τ f, fun y => by omega⟩
  · rintro j τ hj ⟨f, b⟩ ih
    have hw' := hw.kept f (fun i => by unfold fldW; omega)
    have hm' : gI τ 73 13 = (m : Int) := by rw [f.I (by unfold fldW; omega)]; exact hm
    have rj : R32 ((j : Int) + 1) := ⟨by omega, by omega⟩
    have next : ∀ τ', Fr fldW σ0 τ' → (bd j ≠ 0 → ∃ x, Lib m bd j x) → R32 ((j : Int) + 1) ∧ L_X10_aNode_186 X (d + 2) n (zpZ P) (z : Int) ((j : Int) + 1) τ' := by
      intro τ' f' hok
      have := ih τ' ⟨f', fun p hp hne => by
        by_cases e : p = j
        · rw [e] at hne ⊢; exact hok hne
        · exact b p (by omega) hne⟩
      exact ⟨rj, by simpa using this⟩
    refine b_X10_aNode_186 hn ?_
    rw [hm', mm, show ((j : Int)).toNat = j by omega, hw' j (by omega)]
    refine ⟨⟨by omega, by omega⟩, fun y => by omega, fun _ => ⟨by omega, fun y => next τ f (fun u => absurd y u), fun y => ?_⟩⟩
    have hcj := hcon j hj
    refine (sm_flood hn h3 h9 hm' (fun p hp => hw' p (by omega)) hj y ⟨by omega, by omega⟩).mono ?_
    rintro v τ2 - ⟨hF, ev⟩
    have f2 := f.tr hF.1
    refine ⟨fun y2 => next τ2 f2 (fun _ => Classical.byContradiction (fun u => ?_)), fun y2 => hNo (fun u => ?_) τ2 f2⟩
    · have : cnt (Lib m bd j) (m * m) = 0 := cnt_0 (fun i _ w => u ⟨i, w⟩)
      omega
    · obtain ⟨w, hw2⟩ := u j hj y
      have hwl : w < m * m := by obtain ⟨_, a, _, a2⟩ := id hw2; exact a2.2.1
      have := cnt_pos (P := Lib m bd j) hwl hw2
      omega
theorem am_95 (hn : 104 ≤ n) {g k z q : Nat} {bh ko m0c : Int} {m0 : Nat} {T : ATr} {x : ND} {σ0 σ : ZSto} {res : (Int × Nat) ⊕ (Nat × ND × ATr)} (hg : g < 2) (hk : k < 250) (hC : CxM σ g k bh ko T) (hW : TW (nSz x) k T) (hb : BhOk k bh) (hx : NDI k m0 m0c x) (hN : NdM σ g k x) (hNo : NoM σ) (h24 : gI σ 73 24 = (q : Int)) (hz : z ≤ 1500) (hf : Fr (anW g k) σ0 σ) (hr : res = match stF ko k bh T x with | .inl e => .inl (e, z) | .inr T' => .inr (q, x, T')) :
    L_X10_aNode_95 X (d + 4) n (zpZ (fun v σ' => Fr (anW g k) σ0 σ' ∧ NrM σ' g k v res)) (z : Int) ((250 * g + k : Nat) : Int) σ := by
  have hbr := hb.r
  have tK : (((250 * g + k : Nat) : Int)).toNat = 250 * g + k := by omega
  obtain ⟨n1, n2, n3, n4, n5, n6, n7, n8⟩ := id hN
  have fs : Fr (fun a j => a = 73 ∧ j = 27) σ (sI σ 73 27 ((250 * g + k : Nat) : Int)) := Fr.rf.sI ⟨rfl, rfl⟩
  have e27 : gI (sI σ 73 27 ((250 * g + k : Nat) : Int)) 73 27 = ((250 * g + k : Nat) : Int) := gI_same _ _ _ _
  have C1 : CxM (sI σ 73 27 ((250 * g + k : Nat) : Int)) g k bh ko T := hC.kept hk fs (fun a j y => by omega)
  have N1 := hN.kept fs (fun a j y => by omega)
  have No1 := hNo.kept fs (by omega) (by omega)
  have F1 : Fr (anW g k) σ0 (sI σ 73 27 ((250 * g + k : Nat) : Int)) := hf.tr (fs.mono (fun a j y => by unfold anW; omega))
  have e24 : gI (sI σ 73 27 ((250 * g + k : Nat) : Int)) 73 24 = (q : Int) := by rw [gI_f (by omega)]; exact h24
  refine b_X10_aNode_95 hn ?_
  rw [tK, n2, n4, n3, hC.2.2.1, hC.2.2.2.2.1]
  generalize sI σ 73 27 ((250 * g + k : Nat) : Int) = σ1 at fs e27 C1 N1 No1 F1 e24
  refine ⟨by omega, fun y => ?_, fun y => ?_⟩
  · -- sets
    have hmv : nMvr x = 0 := by
      refine Classical.byContradiction (fun u => ?_)
      rw [if_neg u] at y
      split at y <;> omega
    have est : stF ko k bh T x = iteP (Alive (nSz x) (ovl (bB T bh) (nSet x))) (.inr (addT T k bh 0 0 (-1) 0 (trnS T bh (nSet x)) (if bh < 0 then 0 else tDep T bh.toNat + 1) (ovl (bB T bh) (nSet x)) (nSet x))) (.inl 5) := by
      unfold stF; rw [if_pos hmv]
    obtain ⟨c1, c2, c3, c4, c5, c6⟩ := id C1
    obtain ⟨p1, p2, p3, p4, p5, p6, p7, p8⟩ := id N1
    have hbc := bB_con hW hbr.2.1
    obtain ⟨o1, o2⟩ := ovl_ok hbc.1 hbc.2 hx.2.2.2.1 hx.2.2.2.2.1
    have a4 := hx.2.2.2.1
    have mxr : -1 ≤ mX g bh ∧ mX g bh < 500 := by
      unfold mX; split <;> omega
    refine (sm_settles hn (K := 250 * g + k) (g := (g : Int)) (x := mX g bh) (by omega) ⟨by omega, by omega⟩ mxr c3).mono ?_
    rintro σ2 ⟨f2, v2⟩
    have brd : ∀ p, p < 81 → gI σ2 79 (81 * (250 * g + k) + p) = ovl (bB T bh) (nSet x) p := by
      intro p hp
      rw [v2 p hp, p5 p hp]
      have a4p := a4 p
      show _ = if nSet x p = 3 then bB T bh p else nSet x p
      by_cases e3 : nSet x p = 3
      · rw [if_neg (by omega), if_pos e3]
        rcases hb with ⟨k0, rfl⟩ | ⟨b, hbk, rfl⟩
        · rw [mX_n (by omega), if_pos (by omega), bB_n (by omega)]
        · rw [mX_p, if_neg (by omega), bB_p, show (((250 * g + b : Nat) : Int)).toNat = 250 * g + b by omega]
          exact (c1 b hbk).2.2.2.2.2.1 p hp
      · rw [if_pos (by omega), if_neg e3]
    refine (sm_load hn (x := ((250 * g + k : Nat) : Int)) (by omega)).mono ?_
    rintro σ3 ⟨f3, w3⟩
    have W3 : WAll σ3 (ovl (bB T bh) (nSet x)) := fun p hp => by
      rw [w3 p hp, if_neg (by omega), tK]; exact brd p hp
    have f13 : Fr (fun a j => a = 84 ∨ (a = 79 ∧ 81 * (250 * g + k) ≤ j ∧ j < 81 * (250 * g + k) + 81)) σ1 σ3 := (f2.mono (fun a j y => by omega)).tr (f3.mono (fun a j y => by omega))
    have F3 : Fr (anW g k) σ0 σ3 := F1.tr (f13.mono (fun a j y => by unfold anW; omega))
    have := am_186 (X := X) (d := d + 2) (P := fun v σ' => Fr (anW g k) σ0 σ' ∧ NrM σ' g k v res) hn hW.1 hW.2.1 (by rw [f13.I (by omega)]; exact p6) W3 o1 hz (fun hA τ ft => ?_) (fun hA τ ft => ?_) 0 σ3 (by omega) ⟨Fr.rf, fun p hp => by omega⟩
    · simpa using this
    · rw [est, iteP_t hA] at hr
      have f1t : Fr (fun a j => (84 ≤ a ∧ a ≤ 87) ∨ (a = 79 ∧ 81 * (250 * g + k) ≤ j ∧ j < 81 * (250 * g + k) + 81)) σ1 τ := (f13.mono (fun a j y => by omega)).tr (ft.mono (fun a j y => by unfold fldW at y; omega))
      refine ⟨F3.tr (ft.mono (fun a j y => by unfold fldW at y; unfold anW; omega)), ?_⟩
      rw [hr]
      refine ⟨rfl, No1.kept f1t (by omega) (by omega), by rw [f1t.I (by omega)]; exact e24, by rw [f1t.I (by omega)]; exact e27, by rw [f1t.I (by omega)]; exact p6, ?_⟩
      refine MTr.mk2 (fun i hi => (c1 i hi).kept f1t (fun a q1 q2 => by omega) (fun a p q1 q2 => by omega)) (by rw [f1t.I (by omega)]; exact p7) (by rw [f1t.I (by omega)]; exact p8) (by rw [f1t.I (by omega)]; exact c2) (by rw [f1t.I (by omega)]; exact c3) ?_ ?_ ?_ (by rw [f1t.I (by omega)]; exact c4) (fun p hp => ?_) (fun p hp => by rw [f1t.I (by omega)]; exact p5 p hp)
      · rw [f1t.I (by omega), p2, if_pos hmv]
      · rw [f1t.I (by omega), p3]; exact hmv
      · rw [f1t.I (by omega), p4]
        rcases hx.2.2.2.2.2.2.1 with u | u
        · exact u.2
        · rw [hmv] at u; omega
      · rw [ft.I (by unfold fldW; omega), f3.I (by omega)]; exact brd p hp
    · rw [est, iteP_f hA] at hr
      have f1t : Fr (fun a j => (84 ≤ a ∧ a ≤ 87) ∨ (a = 79 ∧ 81 * (250 * g + k) ≤ j ∧ j < 81 * (250 * g + k) + 81)) σ1 τ := (f13.mono (fun a j y => by omega)).tr (ft.mono (fun a j y => by unfold fldW at y; omega))
      refine (sm_fault hn (No1.kept f1t (by omega) (by omega)) ⟨by omega, by omega⟩ ⟨by omega, by omega⟩).mono ?_
      rintro v σ' - ⟨rfl, f4, q1, q2⟩
      refine ⟨(F3.tr (ft.mono (fun a j y => by unfold fldW at y; unfold anW; omega))).tr (f4.mono (fun a j y => by unfold anW; omega)), ?_⟩
      rw [hr]
      exact ⟨rfl, q1, q2, by show ¬ (5 : Int) = 0; omega⟩
  · -- a move
    have hmv : ¬ nMvr x = 0 := fun u => y (by rw [if_pos u])
    have b7 : (nMvr x = 1 ∨ nMvr x = 2) ∧ (nPnt x = -1 ∨ (0 ≤ nPnt x ∧ nPnt x < ((nSz x * nSz x : Nat) : Int))) := by
      rcases hx.2.2.2.2.2.2.1 with u | u
      · exact absurd u.1 hmv
      · exact ⟨u.1, u.2.1⟩
    have hN9 := sq_le hW.2.1
    refine ⟨fun y2 => ?_, fun y2 => ?_⟩
    · have := am_move (X := X) (d := d) hn hg hk C1 hW hb hx N1 No1 e24 hmv F1 hr (Or.inl y2) e27
      exact this
    · have hpt := b7.2.resolve_left y2
      obtain ⟨p, ep⟩ : ∃ p : Nat, nPnt x = (p : Int) := ⟨(nPnt x).toNat, by omega⟩
      obtain ⟨c1, c2, c3, c4, c5, c6⟩ := id C1
      obtain ⟨p1, p2, p3, p4, p5, p6, p7, p8⟩ := id N1
      rw [ep]
      refine (sm_why (ko := ko) hn hg c1 hW p6 c6 b7.1 ⟨hbr.1, hbr.2.1⟩ (p := p) (by omega)).mono ?_
      rintro v σ2 - ⟨f2, hw⟩
      have F2 : Fr (anW g k) σ0 σ2 := F1.tr (f2.mono (fun a j y => by unfold putW at y; unfold anW; omega))
      have No2 := No1.kept f2 (by unfold putW; omega) (by unfold putW; omega)
      have hv0 : 0 ≤ v := by
        rcases hw with u | u | ⟨_, _, u | u⟩ <;> omega
      refine ⟨fun y3 => ?_, fun y3 => ?_⟩
      · have hv : v = 0 := by omega
        rw [hv] at hw
        rw [f2.I (show ¬ putW 77 _ by unfold putW; omega), f2.I (show ¬ putW 76 _ by unfold putW; omega), p3, p4]
        have C2 : CxM σ2 g k bh ko T := C1.kept hk f2 (fun a j y => by unfold putW at y; omega)
        have N2 : NdM σ2 g k x := by
          refine ⟨by rw [f2.I (by unfold putW; omega)]; exact p1, by rw [f2.I (by unfold putW; omega)]; exact p2, by rw [f2.I (by unfold putW; omega)]; exact p3, by rw [f2.I (by unfold putW; omega)]; exact p4, fun p hp => by rw [f2.I (by unfold putW; omega)]; exact p5 p hp, by rw [f2.I (by unfold putW; omega)]; exact p6, by rw [f2.I (by unfold putW; omega)]; exact p7, by rw [f2.I (by unfold putW; omega)]; exact p8⟩
        exact am_move (X := X) (d := d) hn hg hk C2 hW hb hx N2 No2 (by rw [f2.I (by unfold putW; omega)]; exact e24) hmv F2 hr (Or.inr (by rw [ep, show ((p : Int)).toNat = p by omega]; exact hw)) (by rw [f2.I (by unfold putW; omega)]; exact e27)
      · refine (sm_fault hn No2 ⟨by omega, by omega⟩ ⟨by omega, by omega⟩).mono ?_
        rintro v2 σ' - ⟨rfl, f4, q1, q2⟩
        refine ⟨F2.tr (f4.mono (fun a j y => by unfold anW; omega)), ?_⟩
        have est : stF ko k bh T x = .inl 4 := by
          unfold stF
          rw [if_neg hmv, iteP_f (fun u => by
            rcases u with u | u
            · exact y2 u
            · rw [ep, show ((p : Int)).toNat = p by omega] at u
              have := hw.uniq u
              omega)]
        rw [hr, est]
        exact ⟨rfl, q1, q2, by show ¬ (4 : Int) = 0; omega⟩
end ZQ
