theorem BOk.lfk {σ σ1 : ZSto} {m : Nat} {bd : Nat → Int} (h : BOk σ 33 m bd) (f : Fr lfW σ σ1) (hm : BMk σ1 33) : BOk σ1 33 m bd := by
  obtain ⟨⟨a1, a2, a3, a4, a5⟩, hc, hs, -⟩ := h
  exact ⟨⟨a1, a2, by rw [f.I (by unfold lfW gatW; omega)]; exact a3, by rw [f.I (by unfold lfW gatW; omega)]; exact a4, fun p hp dd hd => by rw [f.I (by unfold lfW gatW; omega)]; exact a5 p hp dd hd⟩, hc, fun p hp => by rw [f.I (by unfold lfW gatW; omega)]; exact hs p hp, hm⟩
theorem lN_of (v : Int64) : ∃ k, k < 2 ^ 64 ∧ v = lN k := ⟨v.toBitVec.toNat, v.toBitVec.isLt, wb_inj (by rw [wb_tb]; simp)⟩
/-- what is told of the region of s -/
def RgA (m : Nat) (bd : Nat → Int) (c : Int) (h : Nat) (w v : Int) : Prop := (w = 0 → v = (h : Int)) ∧ (w = 1 → v = (cnt (Rch m (Sr bd c) h) (m * m) : Nat)) ∧ (w = 2 → v = (cnt (fun q => Rch m (Sr bd c) h q ∧ bd q = 0) (m * m) : Nat)) ∧ (w = 3 → v = (cnt (fun q => HdS m (Sc bd c) q ∧ Vit m bd c h q) (m * m) : Nat)) ∧ (w < 0 ∨ 3 < w → v = -1)
theorem RgA.uniq {m : Nat} {bd : Nat → Int} {c : Int} {h : Nat} {w v v' : Int} (a : RgA m bd c h w v) (b : RgA m bd c h w v') : v = v' := by
  obtain ⟨a0, a1, a2, a3, a4⟩ := a
  obtain ⟨b0, b1, b2, b3, b4⟩ := b
  rcases (show w = 0 ∨ w = 1 ∨ w = 2 ∨ w = 3 ∨ (w < 0 ∨ 3 < w) by omega) with z | z | z | z | z
  · rw [a0 z, b0 z]
  · rw [a1 z, b1 z]
  · rw [a2 z, b2 z]
  · rw [a3 z, b3 z]
  · rw [a4 z, b4 z]
theorem cnt_VB {m h : Nat} {bd : Nat → Int} {c : Int} (h9 : m ≤ 9) : cnt (VB m bd c h) 64 = cnt (fun q => HdS m (Sc bd c) q ∧ Vit m bd c h q) (m * m) := by
  have hK := heads_lt (S := Sc bd c) h9
  have e1 : cnt (fun q => HdS m (Sc bd c) q ∧ Vit m bd c h q) (m * m) = cnt (fun q => HdS m (Sc bd c) q ∧ VB m bd c h (cnt (HdS m (Sc bd c)) q)) (m * m) := cnt_congr (fun q _ => ⟨fun y => ⟨y.1, (VB_h y.1).mpr y.2⟩, fun y => ⟨y.1, (VB_h y.1).mp y.2⟩⟩)
  rw [e1, cnt_ix (H := HdS m (Sc bd c)) (P := VB m bd c h)]
  refine cnt_ext (by omega) (fun i hi _ y => ?_)
  obtain ⟨⟨p, p1, p2⟩, y2⟩ := y
  obtain ⟨b, k, _, _, k3, _, k5⟩ := y2 p p1 p2
  have := ix_lt (H := HdS m (Sc bd c)) k3.1 k3
  omega
section ZL
variable {X : ZX} {d n : Nat} {σ : ZSto}
theorem sp_tellRegion (hn : 73 ≤ n) {m s : Nat} {bd : Nat → Int} {c w : Int} (hB : BOk σ 33 m bd) (hc : c = 1 ∨ c = 2) (hs : s < m * m) (hb : bd s ≠ c) (hw : R32 w) (hg : gI σ 33 10 < 1999990000) :
    ZkI X M_X4_tellRegion (d + 5) n [.ref (zB X + 53), iV c, iV (s : Int), iV w] σ (fun v σ' => Fr lfW σ σ' ∧ BOk σ' 33 m bd ∧ gI σ' 33 10 ≤ gI σ 33 10 + 162 ∧ ∀ h, HdS m (Sr bd c) h → Rch m (Sr bd c) h s → RgA m bd c h w v) := by
  have h9 := hB.1.2.1
  have hN := sq_le h9
  have ts : ((s : Int)).toNat = s := by omega
  refine w_X4_tellRegion hn ⟨by omega, by omega⟩ ⟨by omega, by omega⟩ hw ((sp_lsurvey hn hB hc hg).mono ?_)
  rintro σ1 ⟨f1, b1, g1, l1⟩
  refine (sp_has hn (Or.inl rfl) b1.1 ⟨by omega, by omega⟩).mono ?_
  rintro v _ - ⟨rfl, hv⟩
  rw [if_pos (by omega)] at hv
  obtain ⟨h, h1, h2⟩ := HdS.ex (S := Sr bd c) (m := m) s hs hb
  obtain ⟨e8, e9, -, eR, e55⟩ := l1
  have e5 := e55 s hs h h1 h2
  have hj := ix_lt (H := HdS m (Sr bd c)) h1.1 h1
  have hL := heads_lt (S := Sr bd c) h9
  obtain ⟨r1, r2, r3, r4⟩ := eR h h1
  generalize cnt (HdS m (Sr bd c)) h = j at *
  have tj : ((j : Int)).toNat = j := by omega
  refine ⟨fun q => by omega, fun _ => ⟨by omega, ?_⟩⟩
  rw [ts, e5]
  have out : ∀ v, RgA m bd c h w v → Fr lfW σ σ1 ∧ BOk σ1 33 m bd ∧ gI σ1 33 10 ≤ gI σ 33 10 + 162 ∧ ∀ h, HdS m (Sr bd c) h → Rch m (Sr bd c) h s → RgA m bd c h w v := fun v hv => ⟨f1, b1, g1, fun h' k1 k2 => by rw [k1.uniq h1 k2 h2]; exact hv⟩
  refine b_X4_tellRegion_26 hn ⟨fun q => by omega, fun _ => ⟨fun q => by omega, fun _ => ⟨fun _ => ?_, fun q => by omega⟩⟩⟩
  rw [tj]
  refine ⟨fun z => ⟨by omega, out _ ⟨fun _ => r1, fun _ => by omega, fun _ => by omega, fun _ => by omega, fun _ => by omega⟩⟩, fun z => ⟨by omega, out _ ⟨fun _ => by omega, fun _ => r2, fun _ => by omega, fun _ => by omega, fun _ => by omega⟩⟩, fun z => ⟨by omega, out _ ⟨fun _ => by omega, fun _ => by omega, fun _ => r3, fun _ => by omega, fun _ => by omega⟩⟩, fun z => ⟨by omega, ?_⟩, fun z => out _ ⟨fun _ => by omega, fun _ => by omega, fun _ => by omega, fun _ => by omega, fun _ => rfl⟩⟩
  obtain ⟨k, hk, ek⟩ := lN_of (gL σ1 59 j)
  rw [ek]
  refine (sp_bitCount hn hk).mono ?_
  rintro v2 _ - ⟨rfl, e2⟩
  rw [← cnt_bits hk, ← ek] at e2
  rw [show cnt (fun i => lB (gL σ1 59 j) i = true) 64 = cnt (VB m bd c h) 64 from cnt_congr (fun i hi => (r4 i hi).1), cnt_VB h9] at e2
  exact out _ ⟨fun _ => by omega, fun _ => by omega, fun _ => by omega, fun _ => e2, fun _ => by omega⟩
theorem rg90 (hn : 104 ≤ n) {m : Nat} {x4 : Int} {D : Nat → Prop} {P : Int → ZSto → Prop} (h9 : m ≤ 9) (hm : gI σ 73 13 = (m : Int)) (hD : ∀ q, q < m * m → (gI σ 93 q = x4 ↔ D q)) (hP : P (cnt D (m * m) : Nat) σ) : L_X10_region_90 X d n (zpI P) x4 0 0 σ := by
  have hN := sq_le h9
  have mm : (m : Int) * (m : Int) = ((m * m : Nat) : Int) := by simp
  have := upto (N := m * m) (Q := fun j τ => L_X10_region_90 X d n (zpI P) x4 (cnt D j : Nat) (j : Int) τ) (I := fun j τ => σ = τ) ?_ ?_ 0 σ (by omega) rfl
  · simpa [cnt] using this
  · rintro _ rfl
    refine b_X10_region_90 hn ?_
    rw [hm, mm]
    exact ⟨⟨by omega, by omega⟩, fun _ => hP, fun q => by omega⟩
  · rintro j _ hj rfl ih
    have tj : ((j : Int)).toNat = j := by omega
    have rj : R32 ((j : Int) + 1) := ⟨by omega, by omega⟩
    have hcl := cnt_le D j
    have key := ih σ rfl
    refine b_X10_region_90 hn ?_
    rw [hm, mm, tj, hD j hj]
    refine ⟨⟨by omega, by omega⟩, fun q => by omega, fun _ => ⟨by omega, fun z => ⟨⟨by omega, by omega⟩, rj, ?_⟩, fun z => ⟨⟨by omega, by omega⟩, rj, ?_⟩⟩⟩
    · rw [cnt_n (P := D) (n := j) z] at key; simpa using key
    · rw [cnt_s (P := D) (n := j) z] at key; simpa using key
theorem rg138 (hn : 104 ≤ n) {m : Nat} {x4 : Int} {D : Nat → Prop} {P : Int → ZSto → Prop} (h9 : m ≤ 9) (hm : gI σ 73 13 = (m : Int)) (hD : ∀ q, q < m * m → ((gI σ 93 q = x4 ∧ gI σ 84 q = 0) ↔ D q)) (hP : P (cnt D (m * m) : Nat) σ) : L_X10_region_138 X d n (zpI P) x4 0 0 σ := by
  have hN := sq_le h9
  have mm : (m : Int) * (m : Int) = ((m * m : Nat) : Int) := by simp
  have := upto (N := m * m) (Q := fun j τ => L_X10_region_138 X d n (zpI P) x4 (cnt D j : Nat) (j : Int) τ) (I := fun j τ => σ = τ) ?_ ?_ 0 σ (by omega) rfl
  · simpa [cnt] using this
  · rintro _ rfl
    refine b_X10_region_138 hn ?_
    rw [hm, mm]
    exact ⟨⟨by omega, by omega⟩, fun _ => hP, fun q => by omega⟩
  · rintro j _ hj rfl ih
    have tj : ((j : Int)).toNat = j := by omega
    have rj : R32 ((j : Int) + 1) := ⟨by omega, by omega⟩
    have hcl := cnt_le D j
    have key := ih σ rfl
    refine b_X10_region_138 hn ?_
    rw [hm, mm, tj]
    refine ⟨⟨by omega, by omega⟩, fun q => by omega, fun _ => ⟨by omega, fun z => ⟨⟨by omega, by omega⟩, rj, ?_⟩, fun z => ⟨fun z2 => ⟨⟨by omega, by omega⟩, rj, ?_⟩, fun z2 => ⟨⟨by omega, by omega⟩, rj, ?_⟩⟩⟩⟩
    · rw [cnt_n (P := D) (n := j) (fun y => z ((hD j hj).mpr y).1)] at key; simpa using key
    · rw [cnt_n (P := D) (n := j) (fun y => z2 ((hD j hj).mpr y).2)] at key; simpa using key
    · rw [cnt_s (P := D) (n := j) ((hD j hj).mp ⟨z, z2⟩)] at key; simpa using key
theorem rg196 (hn : 104 ≤ n) {m r : Nat} {bd : Nat → Int} {c : Int} {P : Int → ZSto → Prop} (h3 : 3 ≤ m) (h9 : m ≤ 9) (hm : gI σ 73 13 = (m : Int)) (hw : WAll σ bd) (hR : RgM σ m bd c) (hr : HdS m (Sr bd c) r) (hP : P (cnt (fun q => HdS m (Sc bd c) q ∧ Vit m bd c r q) (m * m) : Nat) σ) : L_X10_region_196 X (d + 2) n (zpI P) (r : Int) 0 0 σ := by
  have hN := sq_le h9
  have mm : (m : Int) * (m : Int) = ((m * m : Nat) : Int) := by simp
  have := upto (N := m * m) (Q := fun j τ => L_X10_region_196 X (d + 2) n (zpI P) (r : Int) (cnt (fun q => HdS m (Sc bd c) q ∧ Vit m bd c r q) j : Nat) (j : Int) τ) (I := fun j τ => σ = τ) ?_ ?_ 0 σ (by omega) rfl
  · simpa [cnt] using this
  · rintro _ rfl
    refine b_X10_region_196 hn ?_
    rw [hm, mm]
    exact ⟨⟨by omega, by omega⟩, fun _ => hP, fun q => by omega⟩
  · rintro j _ hj rfl ih
    have tj : ((j : Int)).toNat = j := by omega
    have rj : R32 ((j : Int) + 1) := ⟨by omega, by omega⟩
    have hcl := cnt_le (fun q => HdS m (Sc bd c) q ∧ Vit m bd c r q) j
    have key := ih σ rfl
    refine b_X10_region_196 hn ?_
    rw [hm, mm, tj, hR.chd (show j < 81 by omega)]
    refine ⟨⟨by omega, by omega⟩, fun q => by omega, fun _ => ⟨by omega, fun z => ⟨⟨by omega, by omega⟩, rj, ?_⟩, fun z => (sm_isVital hn h3 h9 hm hw hR hr z).mono ?_⟩⟩
    · rw [cnt_n (P := fun q => HdS m (Sc bd c) q ∧ Vit m bd c r q) (n := j) (fun y => z y.1)] at key; simpa using key
    · rintro v _ - ⟨rfl, ⟨rfl, hv⟩ | ⟨rfl, hv⟩⟩
      · rw [cnt_s (P := fun q => HdS m (Sc bd c) q ∧ Vit m bd c r q) (n := j) ⟨z, hv⟩] at key
        exact ⟨fun q => by omega, fun _ => ⟨⟨by omega, by omega⟩, rj, by simpa using key⟩⟩
      · rw [cnt_n (P := fun q => HdS m (Sc bd c) q ∧ Vit m bd c r q) (n := j) (fun y => hv y.2)] at key
        exact ⟨fun _ => ⟨⟨by omega, by omega⟩, rj, by simpa using key⟩, fun q => by omega⟩
def lrW (a i : Nat) : Prop := shwW a i ∨ (85 ≤ a ∧ a ≤ 87) ∨ (93 ≤ a ∧ a ≤ 96)
theorem Rel.life {σ1 σ2 : ZSto} {G : Int} (h : Rel σ G) (f1 : Fr lfW σ σ1) (hB1 : ∀ m bd, BOk σ 33 m bd → BOk σ1 33 m bd) (hg1 : gI σ1 33 10 ≤ gI σ 33 10 + 50000) (f2 : Fr lrW σ1 σ2) : Rel σ2 (G + 60000) := by
  obtain ⟨_, _, _, t, g, m, k, pl, c, T, hGm, hB, hB2, g1, g2⟩ := id h
  refine h.qry ((f1.mono (W' := qW) (fun a i q => by unfold lfW at q; unfold qW; unfold gatW at *; omega)).tr (f2.mono (W' := qW) (fun a i q => by unfold lrW shwW at q; unfold qW; omega))) (fun m bd hb => (hB1 m bd hb).kept f2 (fun a i q => by unfold brdW at q; unfold lrW shwW; omega)) ((hB2.kept2 f1 (fun a i q => by unfold brdX at q; unfold lfW gatW; omega)).kept2 f2 (fun a i q => by unfold brdX at q; unfold lrW shwW; omega)) (by rw [f2.I (by unfold lrW shwW; omega)]; omega) (by rw [f2.I (by unfold lrW shwW; omega), f1.I (by unfold lfW gatW; omega)]; omega)
theorem op_region {G : Int} (hn : 104 ≤ n) (h : Rel σ G) (hG : G ≤ 1900000000) {x y z : Int} (hx : R32 x) (hy : R32 y) (hz : R32 z) : ZkI X M_X9_region (d + 6) n [.ref (zB X + 0), iV x, iV y, iV z] σ (fun v σ1 => ZkI X M_X10_region (d + 4) n [.ref (zB X + 73), iV x, iV y, iV z] σ1 (fun w σ2 => v = w ∧ Rel σ2 (G + 60000))) := by
  have hR := h
  have hn' : 73 ≤ n := by omega
  obtain ⟨h1, h2, h3, t, g, m, k, pl, c, T, hGm, hB, hB2, g1, g2⟩ := h
  obtain ⟨ht, hg, p0, p1, e10, e11, e16, hpk, hW, hTS, hc, hC, hM⟩ := hGm
  have hN := sq_le hW.2.1
  have hcon := hW.con hpk
  -- the reference
  have ref : ∀ (τ : ZSto) (P : Int → ZSto → Prop), Fr lfW σ τ → (∀ σ', Fr lrW τ σ' → ¬ ((x = 1 ∨ x = 2) ∧ (0 ≤ y ∧ y < (m * m : Nat)) ∧ tBrd T pl y.toNat ≠ x) → P (-1) σ') → (∀ v σ', Fr lrW τ σ' → ((x = 1 ∨ x = 2) ∧ (0 ≤ y ∧ y < (m * m : Nat)) ∧ tBrd T pl y.toNat ≠ x) → (∀ h, HdS m (Sr (tBrd T pl) x) h → Rch m (Sr (tBrd T pl) x) h y.toNat → RgA m (tBrd T pl) x h z v) → P v σ') → ZkI X M_X10_region (d + 4) n [.ref (zB X + 73), iV x, iV y, iV z] τ P := by
    intro τ P hf hP0 hP1
    refine w_X10_region hn hx hy hz ((sm_shows hn hg (by rw [hf.I (by unfold lfW gatW; omega)]; exact e10) (by rw [hf.I (by unfold lfW gatW; omega)]; exact e11) (hM.kept hW.2.2.1 hf (fun a i q => by unfold mtrD at q; unfold lfW gatW; omega)) hW hpk).mono ?_)
    rintro v σ1 - ⟨rfl, f1, w1, m1⟩
    have f1' : Fr lrW τ σ1 := f1.mono (fun a i q => Or.inl q)
    refine ⟨fun q => by omega, fun _ => ⟨fun q => hP0 σ1 f1' (fun u => by omega), fun q => ⟨fun q2 => hP0 σ1 f1' (fun u => by omega), fun q2 => (sm_isPoint hn hW.2.1 m1 hy).mono ?_⟩⟩⟩
    rintro v _ - ⟨rfl, ⟨rfl, hv⟩ | ⟨rfl, hv⟩⟩
    · refine ⟨fun q => by omega, fun _ => ⟨by omega, ?_⟩⟩
      obtain ⟨s, rfl⟩ : ∃ s : Nat, y = (s : Int) := ⟨y.toNat, by omega⟩
      have ts : ((s : Int)).toNat = s := by omega
      rw [ts] at hP0 hP1 ⊢
      rw [w1 s (by omega)]
      have hs : s < m * m := by omega
      have hx12 : x = 1 ∨ x = 2 := by omega
      refine ⟨fun q3 => (sm_regions hn hW.1 hW.2.1 m1 w1 hcon hx12).mono ?_, fun q3 => hP0 σ1 f1' (fun u => u.2.2 q3)⟩
      rintro σ2 ⟨f2, R2⟩
      have f2' : Fr lrW τ σ2 := f1'.tr (f2.mono (W' := lrW) (fun a i q => by unfold rgW at q; unfold lrW; omega))
      have m2 : gI σ2 73 13 = (m : Int) := by rw [f2.I (by unfold rgW; omega)]; exact m1
      have w2 := w1.kept f2 (fun i => by unfold rgW; omega)
      obtain ⟨r, r1, r2⟩ := HdS.ex (S := Sr (tBrd T pl) x) (m := m) s hs q3
      have er := ((R2 s).1 hs).1 q3 r r1 r2
      intro y37 ey
      rw [er] at ey
      subst ey
      have out : ∀ v, RgA m (tBrd T pl) x r z v → P v σ2 := fun v hv => hP1 v σ2 f2' ⟨hx12, by omega, q3⟩ (fun h' k1 k2 => by rw [k1.uniq r1 k2 r2]; exact hv)
      refine ⟨fun z0 => out _ ⟨fun _ => rfl, fun _ => by omega, fun _ => by omega, fun _ => by omega, fun _ => by omega⟩, fun z0 => ?_, fun z0 => ?_, fun z0 => ?_, fun z0 => out _ ⟨fun _ => by omega, fun _ => by omega, fun _ => by omega, fun _ => by omega, fun _ => rfl⟩⟩
      · exact rg90 hn hW.2.1 m2 (D := Rch m (Sr (tBrd T pl) x) r) (fun q hq => R2.reg hq r1) (out _ ⟨fun _ => by omega, fun _ => rfl, fun _ => by omega, fun _ => by omega, fun _ => by omega⟩)
      · exact rg138 hn hW.2.1 m2 (D := fun q => Rch m (Sr (tBrd T pl) x) r q ∧ tBrd T pl q = 0) (fun q hq => by rw [R2.reg hq r1, w2 q (by omega)]) (out _ ⟨fun _ => by omega, fun _ => by omega, fun _ => rfl, fun _ => by omega, fun _ => by omega⟩)
      · exact rg196 hn hW.1 hW.2.1 m2 w2 R2 r1 (out _ ⟨fun _ => by omega, fun _ => by omega, fun _ => by omega, fun _ => rfl, fun _ => by omega⟩)
    · exact ⟨fun _ => hP0 σ1 f1' (fun u => hv u.2.1), fun q => by omega⟩
  have none : ¬ ((x = 1 ∨ x = 2) ∧ (0 ≤ y ∧ y < (m * m : Nat)) ∧ tBrd T pl y.toNat ≠ x) → ZkI X M_X10_region (d + 4) n [.ref (zB X + 73), iV x, iV y, iV z] σ (fun w σ2 => -1 = w ∧ Rel σ2 (G + 60000)) := fun hno => ref σ _ Fr.rf (fun σ' f _ => ⟨rfl, hR.life Fr.rf (fun m bd hb => hb) (by omega) f⟩) (fun v σ' f hy _ => absurd hy hno)
  refine w_X9_region hn' hx hy hz ((sp_isColour hn' hx).mono ?_)
  rintro v _ - ⟨rfl, hv⟩
  by_cases hx12 : x = 1 ∨ x = 2
  · rw [if_pos hx12] at hv
    refine ⟨fun q => by omega, fun _ => (sp_has hn' (Or.inl rfl) hB.1 hy).mono ?_⟩
    rintro v _ - ⟨rfl, hv⟩
    by_cases hyp : 0 ≤ y ∧ y < (m * m : Nat)
    · rw [if_pos hyp] at hv
      refine ⟨fun q => by omega, fun _ => (sp_contentOf hn' (Or.inl rfl) hB.1 hB.2.2.1 hy).mono ?_⟩
      rintro v _ - ⟨rfl, hv⟩
      rw [if_pos hyp] at hv
      subst hv
      refine ⟨fun q => ?_, fun q => none (fun u => u.2.2 q)⟩
      obtain ⟨s, es⟩ : ∃ s : Nat, y = (s : Int) := ⟨y.toNat, by omega⟩
      have ts : y.toNat = s := by omega
      rw [ts] at q ref
      rw [es]
      refine (sp_tellRegion hn' hB hx12 (by omega) q hz (by omega)).mono ?_
      rintro v σ1 - ⟨f1, b1, g3, a1⟩
      rw [← es]
      refine ref σ1 _ f1 (fun σ' f hno => absurd ⟨hx12, hyp, q⟩ hno) (fun w σ' f _ hw => ?_)
      obtain ⟨r, r1, r2⟩ := HdS.ex (S := Sr (tBrd T pl) x) (m := m) s (by omega) q
      refine ⟨(a1 r r1 r2).uniq (hw r r1 r2), ?_⟩
      refine hR.qry ((f1.mono (W' := qW) (fun a i q => by unfold lfW at q; unfold qW; unfold gatW at *; omega)).tr (f.mono (W' := qW) (fun a i q => by unfold lrW shwW at q; unfold qW; omega))) (fun m' bd' hb => ?_) ((hB2.kept2 f1 (fun a i q => by unfold brdX at q; unfold lfW gatW; omega)).kept2 f (fun a i q => by unfold brdX at q; unfold lrW shwW; omega)) (by rw [f.I (by unfold lrW shwW; omega)]; omega) (by rw [f.I (by unfold lrW shwW; omega), f1.I (by unfold lfW gatW; omega)]; omega)
      exact (hb.lfk f1 b1.2.2.2).kept f (fun a i q => by unfold brdW at q; unfold lrW shwW; omega)
    · rw [if_neg hyp] at hv
      exact ⟨fun _ => none (fun u => hyp u.2.1), fun q => absurd hv q⟩
  · rw [if_neg hx12] at hv
    exact ⟨fun _ => none (fun u => hx12 u.1), fun q => absurd hv q⟩
end ZL
