def stW (t a j : Nat) : Prop := (t + 1 ≤ a ∧ a ≤ t + 13) ∨ (a = t ∧ j = 15) ∨ brdW 41 a ∨ (a = 49 ∧ (j = 8 ∨ j = 9 ∨ j = 11))
/-- where the class stands behind a node -/
def StR (σ : ZSto) (t k m : Nat) (c : Int) (z : Nat) : Int ⊕ ATr → Prop
  | .inl e => gI σ 49 8 = e ∧ gI σ 49 9 = (z : Int) ∧ ¬ e = 0
  | .inr T' => NoF σ ∧ gI σ 49 11 = (k : Int) ∧ CTr σ t m (k + 1) c T'
section ZC
variable {X : ZX} {d n : Nat} {σ : ZSto} {B : Nat → Int} {L : Nat}
theorem sp_layBehind (hn : 73 ≤ n) {t m k : Nat} {c bh : Int} {T : ATr} (ht : zIsT t) (hp : gP σ 49 4 = some t) (hC : CTr σ t m k c T) (hW : TW m k T) (hB : BPre σ 41) (hb : BhOk k bh) (h11 : gI σ 49 11 = bh) :
    ZkV X M_X5_layBoardBehind (d + 4) n [.ref (zB X + 49)] σ (fun σ' => Fr (fun a i => a = 42 ∨ a = 43 ∨ (a = 41 ∧ (i = 7 ∨ i = 8))) σ σ' ∧ BOk σ' 41 m (bB T bh)) := by
  have ht2 : t = 1 ∨ t = 15 := ht
  refine w_X5_layBoardBehind hn ⟨t, hp, ht, ?_⟩
  rw [hC.1]
  refine (sp_shape hn (Or.inr rfl) hW.1 hW.2.1 hB).mono ?_
  rintro σ1 ⟨f1, b1, -⟩
  have F1 : Fr (fun a i => a = 42 ∨ a = 43 ∨ (a = 41 ∧ (i = 7 ∨ i = 8))) σ σ1 := f1.mono (fun a i q => by omega)
  have C1 := hC.kept F1 (fun a i q => by unfold ctrD at q; omega)
  have hp1 : gP σ1 49 4 = some t := by rw [F1.P (by omega)]; exact hp
  refine ⟨t, hp1, ht, ?_⟩
  rw [F1.I (show ¬ (49 = 42 ∨ 49 = 43 ∨ (49 = 41 ∧ (11 = 7 ∨ 11 = 8))) by omega), h11]
  rcases hb with ⟨k0, rfl⟩ | ⟨b, hbk, rfl⟩
  · refine (sp_thasN hn ht C1.2.2.1 hW.2.2.1 ⟨by omega, by omega⟩ (by omega)).mono ?_
    rintro v _ - ⟨rfl, rfl⟩
    refine ⟨fun _ => ⟨F1, ?_⟩, fun q => absurd rfl q⟩
    rw [bB_n (by omega)]; exact b1
  · have hk2 := hW.2.2.1
    refine (sp_thasY hn ht C1.2.2.1 hk2 hbk).mono ?_
    rintro v _ - ⟨rfl, rfl⟩
    refine ⟨fun q => by omega, fun _ => ⟨t, hp1, ht, ?_⟩⟩
    rw [F1.I (show ¬ (49 = 42 ∨ 49 = 43 ∨ (49 = 41 ∧ (11 = 7 ∨ 11 = 8))) by omega), h11, show (b : Int) * 3 = ((3 * b : Nat) : Int) by omega]
    obtain ⟨r1, r2, r3, r4, r5, r6, r7, r8, r9⟩ := C1.2.2.2.1 b hbk
    refine (sp_load hn (Or.inr rfl) (zT_l11 ht hn) (zT_s11 ht) b1.1 (by omega) (hW.con hbk) (from_ := 3 * b) (by omega) r8).mono ?_
    rintro σ2 ⟨f2, s2⟩
    refine ⟨F1.tr (f2.mono (fun a i q => by omega)), ?_⟩
    rw [bB_p]
    obtain ⟨⟨a1, a2, a3, a4, a5⟩, -, -, a6, a7⟩ := b1
    exact ⟨⟨a1, a2, by rw [f2.I (by omega)]; exact a3, by rw [f2.I (by omega)]; exact a4, fun p hp dd hd => by rw [f2.I (by omega)]; exact a5 p hp dd hd⟩, hW.con hbk, s2, by rw [f2.I (by omega)]; exact a6, fun q => by rw [f2.I (by omega), f2.I (by omega), f2.I (by omega)]; exact a7 q⟩
theorem sp_settleMove (hn : 73 ≤ n) {t m k z : Nat} {c bh ko : Int} {T : ATr} {x : ND} {m0 : Nat} {c0 : Int} (ht : zIsT t) (hp : gP σ 49 4 = some t) (hx : NDI k m0 c0 x) (hm : nSz x = m) (hN : NdC σ t x) (hC : CTr σ t m k c T) (hW : TW m k T) (hk : k < 250) (hB : BPre σ 41) (hb : BhOk k bh) (h11 : gI σ 49 11 = bh) (h12 : gI σ 49 12 = (z : Int)) (hz : z ≤ 1500) (h5 : gI σ 49 5 = ko) (hko : R32 ko) (h8 : NoF σ) (hmv : ¬ nMvr x = 0) (hg : gI σ 41 10 < 1999990000) :
    ZkV X M_X5_settleMove (d + 5) n [.ref (zB X + 49)] σ (fun σ' => Fr (stW t) σ σ' ∧ BPre σ' 41 ∧ gI σ' 41 10 ≤ gI σ 41 10 + 100 ∧ StR σ' t k m c z (stF ko k bh T x)) := by
  have ht2 : t = 1 ∨ t = 15 := ht
  have hN9 := sq_le hW.2.1
  obtain ⟨c1, c2, c3, -, -, -⟩ := hN
  have hbr := hb.r
  have b7 : (nMvr x = 1 ∨ nMvr x = 2) ∧ (nPnt x = -1 ∨ (0 ≤ nPnt x ∧ nPnt x < ((m * m : Nat) : Int))) := by
    rcases hx.2.2.2.2.2.2.1 with u | u
    · exact absurd u.1 hmv
    · rw [hm] at u; exact ⟨u.1, u.2.1⟩
  have est : stF ko k bh T x = iteP (nPnt x = -1 ∨ Why m T ko (bB T bh) bh (nPnt x).toNat (nMvr x) 0) (.inr (addT T k bh (if nPnt x = -1 then 2 else 1) (nMvr x) (nPnt x) (if nPnt x = -1 then 0 else ((cnt (Dies m (bB T bh) (nPnt x).toNat (nMvr x)) (m * m) : Nat) : Int)) (3 - nMvr x) (if bh < 0 then 0 else tDep T bh.toNat + 1) (if nPnt x = -1 then bB T bh else putB m (bB T bh) (nPnt x).toNat (nMvr x)) (fun _ => 3))) (.inl 4) := by
    unfold stF; rw [if_neg hmv, hm]
  refine w_X5_settleMove hn ((sp_layBehind hn ht hp hC hW hB hb h11).mono ?_)
  rintro σ1 ⟨f1, b1⟩
  have e5 : gI σ1 49 5 = ko := by rw [f1.I (by omega)]; exact h5
  have e8 : NoF σ1 := h8.kept f1 (by omega) (by omega)
  have e11 : gI σ1 49 11 = bh := by rw [f1.I (by omega)]; exact h11
  have e12 : gI σ1 49 12 = (z : Int) := by rw [f1.I (by omega)]; exact h12
  have e14 : gI σ1 49 14 = nMvr x := by rw [f1.I (by omega)]; exact c2
  have e15 : gI σ1 49 15 = nPnt x := by rw [f1.I (by omega)]; exact c3
  have p1 : gP σ1 49 4 = some t := by rw [f1.P (by omega)]; exact hp
  have C1 := hC.kept f1 (fun a i q => by unfold ctrD at q; omega)
  have g1 : gI σ1 41 10 = gI σ 41 10 := f1.I (by omega)
  have F1 : Fr (stW t) σ σ1 := f1.mono (fun a i q => by unfold stW brdW; omega)
  rw [e15, e11, e14, e5]
  have rp : R32 (nPnt x) := by
    rcases b7.2 with u | u
    · exact ⟨by omega, by omega⟩
    · exact ⟨by omega, by omega⟩
  refine ⟨fun y => ⟨t, p1, ht, (sp_addMove hn ht (Or.inr rfl) C1 hW b1 hk hb b7.1 rp).mono ?_⟩, fun y => ⟨t, p1, ht, ?_⟩⟩
  · rintro v σ2 - ⟨rfl, f2, C2⟩
    rw [est, iteP_t (Or.inl y)]
    have fs : Fr (fun a j => a = 49 ∧ j = 11) σ2 (sI σ2 49 11 (k : Int)) := Fr.rf.sI ⟨rfl, rfl⟩
    refine ⟨(F1.tr (f2.mono (fun a i q => by unfold stW; omega))).tr (fs.mono (fun a j q => by unfold stW; omega)), ?_, ?_, ?_, gI_same _ _ _ _, ?_⟩
    · exact (b1.pre.kept2 f2 (fun a i q => by unfold brdX at q; omega)).kept2 fs (fun a i q => by unfold brdX at q; omega)
    · rw [fs.I (by omega), f2.I (by omega)]; omega
    · exact (e8.kept f2 (by omega) (by omega)).kept fs (by omega) (by omega)
    · rw [if_pos y, if_pos y, if_pos y]
      rw [if_pos y, if_pos y] at C2
      exact C2.kept fs (fun a i q => by unfold ctrD at q; omega)
  · have hpt : 0 ≤ nPnt x ∧ nPnt x < ((m * m : Nat) : Int) := b7.2.resolve_left y
    obtain ⟨p, ep⟩ : ∃ p : Nat, nPnt x = (p : Int) := ⟨(nPnt x).toNat, by omega⟩
    have tp : (nPnt x).toNat = p := by omega
    rw [tp] at est
    rw [ep]
    refine (sp_tryPlay hn ht (Or.inr rfl) C1 hW b1 ⟨hbr.1, hbr.2.1⟩ (by omega) b7.1 hko (by omega)).mono ?_
    rintro v σ2 - ⟨f2, g2, hw, hv2, hv0⟩
    have F2 : Fr (stW t) σ σ2 := F1.tr (f2.mono (fun a i q => Or.inr (Or.inr (Or.inl q))))
    have BP2 : BPre σ2 41 := by
      by_cases q : v = 2
      · exact (hv2 q).pre
      · exact (hv0 q).1.pre
    have e8' : NoF σ2 := e8.kept f2 (by unfold brdW; omega) (by unfold brdW; omega)
    have p2 : gP σ2 49 4 = some t := by rw [f2.P (by unfold brdW; omega)]; exact p1
    have C2 := C1.kept f2 (fun a i q => by unfold ctrD at q; unfold brdW; omega)
    refine ⟨fun y2 => ⟨t, p2, ht, ?_⟩, fun y2 => ?_⟩
    · subst y2
      obtain ⟨b2, k2⟩ := hv0 (by omega)
      rw [f2.I (show ¬ brdW 41 49 by unfold brdW; omega), f2.I (show ¬ brdW 41 49 by unfold brdW; omega), f2.I (show ¬ brdW 41 49 by unfold brdW; omega), e11, e14, e15]
      refine (sp_addMove hn ht (Or.inr rfl) C2 hW b2 hk hb b7.1 rp).mono ?_
      rintro v3 σ3 - ⟨rfl, f3, C3⟩
      rw [est, iteP_t (Or.inr hw)]
      have fs : Fr (fun a j => a = 49 ∧ j = 11) σ3 (sI σ3 49 11 (k : Int)) := Fr.rf.sI ⟨rfl, rfl⟩
      refine ⟨(F2.tr (f3.mono (fun a i q => by unfold stW; omega))).tr (fs.mono (fun a j q => by unfold stW; omega)), ?_, ?_, ?_, gI_same _ _ _ _, ?_⟩
      · exact (BP2.kept2 f3 (fun a i q => by unfold brdX at q; omega)).kept2 fs (fun a i q => by unfold brdX at q; omega)
      · rw [fs.I (by omega), f3.I (by omega)]; omega
      · exact (e8'.kept f3 (by omega) (by omega)).kept fs (by omega) (by omega)
      · rw [if_neg y, if_neg y, if_neg y]
        rw [if_neg y, if_neg y, k2] at C3
        exact C3.kept fs (fun a i q => by unfold ctrD at q; omega)
    · rw [f2.I (show ¬ brdW 41 49 by unfold brdW; omega), e12]
      refine (sp_fail hn ⟨by omega, by omega⟩ ⟨by omega, by omega⟩).mono ?_
      rintro σ3 ⟨f3, q1, q2⟩
      rw [est, iteP_f (fun u => by
        rcases u with u | u
        · exact y u
        · exact y2 (hw.uniq u))]
      exact ⟨F2.tr (f3.mono (fun a j q => by unfold stW; omega)), BP2.kept2 f3 (fun a i q => by unfold brdX at q; omega), by rw [f3.I (by omega)]; omega, q1, q2, by show ¬ (4 : Int) = 0; omega⟩
theorem sp_turnBehind (hn : 73 ≤ n) {t m k : Nat} {c bh : Int} {T : ATr} {x : ND} (ht : zIsT t) (hp : gP σ 49 4 = some t) (hC : CTr σ t m k c T) (hW : TW m k T) (hb : BhOk k bh) (h11 : gI σ 49 11 = bh) (h13 : gI σ 49 13 = nTold x) (htd : 0 ≤ nTold x ∧ nTold x < 128) (hTL : TLs (nTold x) x) :
    ZkI X M_X5_turnBehindSets (d + 3) n [.ref (zB X + 49)] σ (fun v σ' => σ = σ' ∧ v = trnS T bh (nSet x)) := by
  refine w_X5_turnBehindSets hn ⟨t, hp, ht, ?_⟩
  rw [h11]
  rcases hb with ⟨k0, rfl⟩ | ⟨b, hbk, rfl⟩
  · refine (sp_thasN hn ht hC.2.2.1 hW.2.2.1 ⟨by omega, by omega⟩ (by omega)).mono ?_
    rintro v _ - ⟨rfl, rfl⟩
    obtain ⟨tn, etn⟩ : ∃ tn : Nat, nTold x = (tn : Int) := ⟨(nTold x).toNat, by omega⟩
    have tab := tn_tab tn (by omega)
    rw [← etn] at tab
    unfold trnS
    rw [if_pos (by omega), h13, tab]
    refine ⟨fun _ => ⟨fun y => ⟨rfl, ?_⟩, fun y => ⟨rfl, ?_⟩⟩, fun q => absurd rfl q⟩
    · rw [iteP_f (fun u => y ⟨hTL.1.mpr u.1, Classical.byContradiction (fun w => u.2 (hTL.2.mp w))⟩)]
    · rw [iteP_t ⟨hTL.1.mp y.1, fun w => hTL.2.mpr w y.2⟩]
  · refine (sp_thasY hn ht hC.2.2.1 hW.2.2.1 hbk).mono ?_
    rintro v _ - ⟨rfl, rfl⟩
    refine ⟨fun q => by omega, fun _ => ⟨t, hp, ht, ?_⟩⟩
    rw [h11]
    refine (sp_turnAt hn ht hC hW.2.2.1 hbk).mono ?_
    rintro v2 _ - ⟨rfl, rfl⟩
    refine ⟨rfl, ?_⟩
    unfold trnS
    rw [if_neg (by omega), show ((b : Int)).toNat = b by omega]
theorem ss_loop (hn : 73 ≤ n) {t m : Nat} {x : ND} {b0 : Nat → Int} {σ0 : ZSto} {P : ZSto → Prop} {k0 m0 : Nat} {c0 : Int} (ht : zIsT t) (hx : NDI k0 m0 c0 x) (hm : nSz x = m) (hN : NdC σ0 t x) (hB0 : BOk σ0 41 m b0) (hP : ∀ τ, Fr (fun a i => a = 42) σ0 τ → BOk τ 41 m (ovl b0 (nSet x)) → L_X5_settleSets_6 X (d + 2) n (zpV P) ((m * m : Nat) : Int) τ) :
    ∀ (j : Nat) (τ : ZSto), j ≤ m * m → (Fr (fun a i => a = 42) σ0 τ ∧ ∀ p, p < m * m → gI τ 42 p = if p < j then ovl b0 (nSet x) p else b0 p) → L_X5_settleSets_6 X (d + 2) n (zpV P) (j : Int) τ := by
  have h9 := hB0.1.2.1
  have hN9 := sq_le h9
  obtain ⟨c1, c2, c3, c4, c5, c6⟩ := hN
  rw [hm] at c4
  have a4 := hx.2.2.2.1
  have geo : ∀ τ, Fr (fun a i => a = 42) σ0 τ → BGeo τ 41 m ∧ BMk τ 41 := by
    intro τ f
    obtain ⟨⟨q1, q2, q3, q4, q5⟩, -, -, q6, q7⟩ := hB0
    exact ⟨⟨q1, q2, by rw [f.I (by omega)]; exact q3, by rw [f.I (by omega)]; exact q4, fun p hp dd hd => by rw [f.I (by omega)]; exact q5 p hp dd hd⟩, by rw [f.I (by omega)]; exact q6, fun q => by rw [f.I (by omega), f.I (by omega), f.I (by omega)]; exact q7 q⟩
  refine upto (N := m * m) (Q := fun j τ => L_X5_settleSets_6 X (d + 2) n (zpV P) (j : Int) τ) (I := fun j τ => Fr (fun a i => a = 42) σ0 τ ∧ ∀ p, p < m * m → gI τ 42 p = if p < j then ovl b0 (nSet x) p else b0 p) ?_ ?_
  · rintro τ ⟨f, s⟩
    have hg := geo τ f
    refine hP τ f ⟨hg.1, ?_, fun p hp => by have := s p hp; rw [if_pos hp] at this; exact this, hg.2⟩
    intro p hp
    show (if nSet x p = 3 then b0 p else nSet x p) = 0 ∨ (if nSet x p = 3 then b0 p else nSet x p) = 1 ∨ (if nSet x p = 3 then b0 p else nSet x p) = 2
    have := a4 p
    split
    · exact hB0.2.1 p hp
    · omega
  · rintro j τ hj ⟨f, s⟩ ih
    have hg := geo τ f
    have rj : R32 ((j : Int) + 1) := ⟨by omega, by omega⟩
    have hb4 : B4 (m * m) (fun q => stC (nSet x q)) := stC_b4 a4
    refine b_X5_settleSets_6 hn ?_
    rw [hg.1.2.2.2.1]
    refine ⟨fun q => by omega, fun _ => ?_⟩
    have := sp_pairAt (X := X) (d := d + 1) (σ := τ) hn (a := 51) (z := 3) (from_ := 0) (N := m * m) (p := j) (by omega) sh_51 hb4 hj (by omega) (by omega) (fun w hw => by rw [Nat.zero_add, f.L (by omega)]; exact c4 w hw)
    refine this.mono ?_
    rintro v _ - ⟨rfl, hv⟩
    have hv' : v = stC (nSet x j) := hv
    have a4j := a4 j
    have next : ∀ (w : Int), w = ovl b0 (nSet x) j → R32 ((j : Int) + 1) ∧ L_X5_settleSets_6 X (d + 2) n (zpV P) ((j : Int) + 1) (sI τ 42 j w) := by
      intro w hw
      have := ih (sI τ 42 j w) ⟨f.sI rfl, fun p hp => ?_⟩
      · exact ⟨rj, by simpa using this⟩
      · by_cases e : p = j
        · rw [e, gI_same, if_pos (by omega)]; exact hw
        · rw [gI_f e, s p hp]
          by_cases z : p < j
          · rw [if_pos z, if_pos (by omega)]
          · rw [if_neg z, if_neg (by omega)]
    refine ⟨fun z => ⟨rj, ?_⟩, fun z => ⟨fun z2 => ?_, fun z2 => ?_⟩⟩
    · have h3 : nSet x j = 3 := by
        rw [hv'] at z
        unfold stC at z
        split at z
        · assumption
        · split at z
          · omega
          · omega
      have := ih τ ⟨f, fun p hp => ?_⟩
      · simpa using this
      · rw [s p hp]
        by_cases z : p < j
        · rw [if_pos z, if_pos (by omega)]
        · rw [if_neg z]
          by_cases e : p = j
          · rw [if_pos (by omega), e]
            show b0 j = if nSet x j = 3 then b0 j else nSet x j
            rw [if_pos h3]
          · rw [if_neg (by omega)]
    · have h12 : nSet x j ≠ 3 ∧ v = nSet x j := by
        rw [hv'] at z z2 ⊢
        unfold stC at z z2 ⊢
        split at z
        · omega
        · rename_i h3
          rw [if_neg h3] at z2 ⊢
          split at z2
          · omega
          · rename_i h0
            rw [if_neg h0]
            exact ⟨h3, rfl⟩
      refine (sp_lay hn (Or.inr rfl) hg.1 hj (by omega)).mono ?_
      rintro τ2 rfl
      refine next v ?_
      show v = if nSet x j = 3 then b0 j else nSet x j
      rw [if_neg h12.1]; exact h12.2
    · have h0 : nSet x j = 0 := by
        rw [hv'] at z2
        unfold stC at z2
        split at z2
        · omega
        · split at z2
          · assumption
          · omega
      refine (sp_lay hn (Or.inr rfl) hg.1 hj (by omega)).mono ?_
      rintro τ2 rfl
      refine next 0 ?_
      show 0 = if nSet x j = 3 then b0 j else nSet x j
      rw [if_neg (by omega), h0]
theorem sp_settleSets (hn : 73 ≤ n) {t m k z : Nat} {c bh ko : Int} {T : ATr} {x : ND} {m0 : Nat} {c0 : Int} (ht : zIsT t) (hp : gP σ 49 4 = some t) (hx : NDI k m0 c0 x) (hm : nSz x = m) (hTL : TLs (nTold x) x) (hN : NdC σ t x) (hC : CTr σ t m k c T) (hW : TW m k T) (hk : k < 250) (hB : BPre σ 41) (hb : BhOk k bh) (h11 : gI σ 49 11 = bh) (h12 : gI σ 49 12 = (z : Int)) (hz : z ≤ 1500) (h8 : NoF σ) (hmv : nMvr x = 0) (hg : gI σ 41 10 < 1999990000) :
    ZkV X M_X5_settleSets (d + 5) n [.ref (zB X + 49)] σ (fun σ' => Fr (stW t) σ σ' ∧ BPre σ' 41 ∧ gI σ' 41 10 ≤ gI σ 41 10 + 100 ∧ StR σ' t k m c z (stF ko k bh T x)) := by
  have ht2 : t = 1 ∨ t = 15 := ht
  have hN9 := sq_le hW.2.1
  have htd := hx.2.2.2.2.2.1
  have hbr := hb.r
  have est : stF ko k bh T x = iteP (Alive m (ovl (bB T bh) (nSet x))) (.inr (addT T k bh 0 0 (-1) 0 (trnS T bh (nSet x)) (if bh < 0 then 0 else tDep T bh.toNat + 1) (ovl (bB T bh) (nSet x)) (nSet x))) (.inl 5) := by
    unfold stF; rw [if_pos hmv, hm]
  refine w_X5_settleSets hn ((sp_layBehind hn ht hp hC hW hB hb h11).mono ?_)
  rintro σ1 ⟨f1, b1⟩
  have N1 := hN.kept f1 ⟨by omega, by omega, by omega, by omega, by omega, fun w => by omega⟩
  have := ss_loop (X := X) (d := d + 2) (P := fun σ' => Fr (stW t) σ σ' ∧ BPre σ' 41 ∧ gI σ' 41 10 ≤ gI σ 41 10 + 100 ∧ StR σ' t k m c z (stF ko k bh T x)) hn ht hx hm N1 b1 (fun τ ft bt => ?_) 0 σ1 (by omega) ⟨Fr.rf, fun p hp => by rw [if_neg (by omega)]; exact b1.2.2.1 p hp⟩
  · simpa using this
  · have Ft : Fr (fun a i => a = 42 ∨ a = 43 ∨ (a = 41 ∧ (i = 7 ∨ i = 8))) σ τ := f1.tr (ft.mono (fun a i q => by omega))
    have gt : gI τ 41 10 = gI σ 41 10 := Ft.I (by omega)
    refine b_X5_settleSets_6 hn ?_
    rw [bt.1.2.2.2.1]
    refine ⟨fun _ => (sp_allBreathe hn (Or.inr rfl) bt (by omega)).mono ?_, fun q => by omega⟩
    rintro v σ2 - ⟨f2, b2, g2, hv⟩
    have F2 : Fr (fun a i => brdW 41 a) σ σ2 := (Ft.mono (fun a i q => by unfold brdW; omega)).tr (f2.mono (fun a i q => gat_brd q))
    have F2s : Fr (stW t) σ σ2 := F2.mono (fun a i q => Or.inr (Or.inr (Or.inl q)))
    have e8 : NoF σ2 := h8.kept F2 (by unfold brdW; omega) (by unfold brdW; omega)
    have e11 : gI σ2 49 11 = bh := by rw [F2.I (by unfold brdW; omega)]; exact h11
    have e12 : gI σ2 49 12 = (z : Int) := by rw [F2.I (by unfold brdW; omega)]; exact h12
    have p2 : gP σ2 49 4 = some t := by rw [F2.P (by unfold brdW; omega)]; exact hp
    have C2 := hC.kept F2 (fun a i q => by unfold ctrD at q; unfold brdW; omega)
    refine ⟨fun y => ⟨t, p2, ht, ?_⟩, fun y => ?_⟩
    · have hA : Alive m (ovl (bB T bh) (nSet x)) := by
        rcases hv with u | u
        · exact u.2
        · exact absurd u.1 y
      rw [est, iteP_t hA]
      refine (sp_turnBehind hn ht p2 C2 hW hb e11 (by rw [F2.I (by unfold brdW; omega)]; exact hN.1) htd hTL).mono ?_
      rintro tn _ - ⟨rfl, etn⟩
      have htn : trnS T bh (nSet x) = 1 ∨ trnS T bh (nSet x) = 2 := by
        unfold trnS
        split
        · by_cases q : (∃ p, p < 81 ∧ nSet x p = 1) ∧ ¬ ∃ p, p < 81 ∧ nSet x p = 2
          · rw [iteP_t q]; exact Or.inr rfl
          · rw [iteP_f q]; exact Or.inl rfl
        · rename_i q
          obtain ⟨b, eb⟩ : ∃ b : Nat, bh = (b : Int) := ⟨bh.toNat, by omega⟩
          rw [eb, show ((b : Int)).toNat = b by omega]
          exact hW.trn (by omega)
      rw [etn, e11]
      refine (sp_addSets hn ht (Or.inr rfl) C2 hW b2 hk hb htn).mono ?_
      rintro v3 σ3 - ⟨rfl, f3, C3⟩
      have fs : Fr (fun a j => a = 49 ∧ j = 11) σ3 (sI σ3 49 11 (k : Int)) := Fr.rf.sI ⟨rfl, rfl⟩
      have F3 : Fr (stW t) σ (sI σ3 49 11 (k : Int)) := (F2s.tr (f3.mono (fun a i q => by unfold stW; omega))).tr (fs.mono (fun a j q => by unfold stW; omega))
      refine ⟨t, by rw [f3.P (by omega)]; exact p2, ht, ?_⟩
      refine (sp_copySettings hn ht (C3.kept fs (fun a i q => by unfold ctrD at q; omega)) hk (st := nSet x) (fun w hw => ?_)).mono ?_
      · rw [fs.L (by omega), f3.L (by omega), F2.L (by unfold brdW; omega), ← hm]
        exact hN.2.2.2.1 w hw
      · rintro σ4 ⟨f4, C4⟩
        refine ⟨F3.tr (f4.mono (fun a i q => by unfold stW; omega)), ?_, ?_, ?_, ?_, C4⟩
        · exact ((b2.pre.kept2 f3 (fun a i q => by unfold brdX at q; omega)).kept2 fs (fun a i q => by unfold brdX at q; omega)).kept2 f4 (fun a i q => by unfold brdX at q; omega)
        · rw [f4.I (by omega), fs.I (by omega), f3.I (by omega)]; omega
        · exact ((e8.kept f3 (by omega) (by omega)).kept fs (by omega) (by omega)).kept f4 (by omega) (by omega)
        · rw [f4.I (by omega)]; exact gI_same _ _ _ _
    · rw [e12]
      refine (sp_fail hn ⟨by omega, by omega⟩ ⟨by omega, by omega⟩).mono ?_
      rintro σ3 ⟨f3, q1, q2⟩
      rw [est, iteP_f (fun u => by
        rcases hv with w | w
        · omega
        · exact w.2 u)]
      exact ⟨F2s.tr (f3.mono (fun a j q => by unfold stW; omega)), b2.pre.kept2 f3 (fun a i q => by unfold brdX at q; omega), by rw [f3.I (by omega)]; omega, q1, q2, by show ¬ (5 : Int) = 0; omega⟩
end ZC
