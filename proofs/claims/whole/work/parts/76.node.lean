section ZR
variable {X : ZX} {d n : Nat} {σ : ZSto} {G : Int}
theorem node5_loop (hn : 104 ≤ n) {g m k i : Nat} {c : Int} {T : ATr} {P : Int → ZSto → Prop} (hg : g < 2) (e10 : gI σ 73 10 = (g : Int)) (hM : MTr σ g m k c T) (hW : TW m k T) (hi : i < k) (hP : P (cnt (fun j => tPar T j = (i : Int)) k : Nat) σ) :
    L_X10_node_139 X d n (zpI P) ((250 * g + i : Nat) : Int) 0 (((250 * g + i : Nat) : Int) + 1) σ := by
  have hk2 := hW.2.2.1
  have tg : ((g : Int)).toNat = g := by omega
  have := upto (N := k) (Q := fun j τ => L_X10_node_139 X d n (zpI P) ((250 * g + i : Nat) : Int) ((cnt (fun j => tPar T j = (i : Int)) j : Nat) : Int) ((250 * g + j : Nat) : Int) τ) (I := fun j τ => σ = τ) ?_ ?_ (i + 1) σ (by omega) rfl
  · rw [cnt_0 (P := fun j => tPar T j = (i : Int)) (n := i + 1) (fun j hj z => by have := hW.parb (show j < k by omega); omega)] at this
    have e1 : ((250 * g + i : Nat) : Int) + 1 = ((250 * g + (i + 1) : Nat) : Int) := by omega
    rw [e1]
    simpa using this
  · rintro _ rfl
    refine b_X10_node_139 hn ?_
    rw [e10, tg, hM.2.2.1]
    exact ⟨by omega, ⟨by omega, by omega⟩, fun _ => hP, fun q => by omega⟩
  · rintro j _ hj rfl ih
    have r1 := (hM.2.2.2 j hj).1
    have tK : (((250 * g + j : Nat)) : Int).toNat = 250 * g + j := by omega
    have hcl := cnt_le (fun j => tPar T j = (i : Int)) j
    have hpb := hW.parb hj
    have e1 : ((250 * g + j : Nat) : Int) + 1 = ((250 * g + (j + 1) : Nat) : Int) := by omega
    have ep : (if tPar T j < 0 then -1 else 250 * (g : Int) + tPar T j) = ((250 * g + i : Nat) : Int) ↔ tPar T j = (i : Int) := by split <;> omega
    have := ih σ rfl
    refine b_X10_node_139 hn ?_
    rw [e10, tg, hM.2.2.1, tK, r1, e1]
    refine ⟨by omega, ⟨by omega, by omega⟩, fun q => by omega, fun _ => ⟨by omega, fun q => ⟨⟨by omega, by omega⟩, ⟨by omega, by omega⟩, ?_⟩, fun q => ⟨⟨by omega, by omega⟩, ⟨by omega, by omega⟩, ?_⟩⟩⟩
    · rw [cnt_n (P := fun j => tPar T j = (i : Int)) (n := j) (fun z => q (ep.mpr z))] at this
      simpa using this
    · rw [cnt_s (P := fun j => tPar T j = (i : Int)) (n := j) (ep.mp q)] at this
      simpa using this
theorem node6_loop (hn : 104 ≤ n) {g m k : Nat} {c : Int} {T : ATr} {P : Int → ZSto → Prop} (hg : g < 2) (hM : MTr σ g m k c T) (hW : TW m k T) :
    ∀ (i : Nat) (w : Int), i < k → 0 ≤ w → w ≤ 1000 - tDep T i → P (w + tDep T i) σ → L_X10_node_200 X d n (zpI P) w (mX g (tPar T i)) σ := by
  have hk2 := hW.2.2.1
  intro i
  induction i using Nat.strongRecOn with
  | _ i ih =>
    intro w hi h0 h1 hP
    have hNW := hW.2.2.2 i hi
    rcases hW.par hi with ⟨hz, hp⟩ | ⟨hz, b, hb, hp⟩
    · have := hNW.2.2.2.2.2.2.2.2.2.2.2.2.1 hz
      rw [this] at hP
      rw [hp, mX_n (by omega)]
      exact b_X10_node_200 hn ⟨fun _ => by simpa using hP, fun q => by omega⟩
    · have hd := hNW.2.2.2.2.2.2.2.2.2.2.2.2.2.1 hz
      have hd2 := hNW.2.2.2.2.2.2.2.2.2.2.2.2.2.2.1
      have tb : ((b : Int)).toNat = b := by omega
      rw [hp, tb] at hd
      have tK : (((250 * g + b : Nat)) : Int).toNat = 250 * g + b := by omega
      rw [hp, mX_p]
      refine b_X10_node_200 hn ?_
      rw [tK]
      refine ⟨fun q => by omega, fun _ => ⟨by omega, fun y hy => ⟨⟨by omega, by omega⟩, ?_⟩⟩⟩
      rw [(hM.2.2.2 b (by omega)).1] at hy
      have hy : y = mX g (tPar T b) := hy
      rw [hy]
      exact ih b hb (w + 1) (by omega) (by omega) (by omega) (by rw [show w + 1 + tDep T b = w + tDep T i by omega]; exact hP)
theorem op_node (hn : 104 ≤ n) (h : Rel σ G) {x y : Int} (hx : R32 x) (hy : R32 y) : ZkI X M_X9_node (d + 3) n [.ref (zB X + 0), iV x, iV y] σ (fun v σ1 => ZkI X M_X10_node (d + 2) n [.ref (zB X + 73), iV x, iV y] σ1 (fun w σ2 => v = w ∧ Rel σ2 (G + 60000))) := by
  have hR : Rel σ (G + 60000) := h.mono (by omega)
  have hn' : 73 ≤ n := by omega
  obtain ⟨h1, h2, h3, t, g, m, k, pl, c, T, hGm, hB, hB2, g1, g2⟩ := h
  obtain ⟨ht, hg, p0, p1, e10, e11, e16, hpk, hW, hTS, hc, hC, hM⟩ := hGm
  have hk2 := hW.2.2.1
  have tg : ((g : Int)).toNat = g := by omega
  refine w_X9_node hn' hx hy ⟨t, p0, ht, w_X7_tell hn' ht hx hy ((sp_thas hn' ht hC.2.2.1 hk2 hx).mono ?_)⟩
  rintro v _ - ⟨rfl, ⟨rfl, i, hi, rfl⟩ | ⟨rfl, hno⟩⟩
  · have ti : ((i : Int)).toNat = i := by omega
    obtain ⟨r1, r2, r3, r4, r5, r6, r7, -⟩ := hC.2.2.2.1 i hi
    have r0 := (hC.2.2.2.2 i hi).1
    obtain ⟨s1, s2, s3, s4, s5, -⟩ := hM.2.2.2 i hi
    have hpb := hW.parb hi
    have tK : (((250 * g + i : Nat)) : Int).toNat = 250 * g + i := by omega
    have hd2 := (hW.2.2.2 i hi).2.2.2.2.2.2.2.2.2.2.2.2.2.2.1
    -- the reference, once
    have ref : ∀ v : Int, (y = 0 → v = tPar T i) → (y = 1 → v = tKnd T i) → (y = 3 → v = tCol T i) → (y = 4 → v = tPnt T i) → (y = 5 → v = (cnt (fun j => tPar T j = (i : Int)) k : Nat)) → (y = 6 → v = tDep T i) → (y = 7 → v = tTrn T i) → (y = 8 → v = tTok T i) → ((y < 0 ∨ 8 < y ∨ y = 2) → v = -1) → ZkI X M_X10_node (d + 2) n [.ref (zB X + 73), iV (i : Int), iV y] σ (fun w σ2 => v = w ∧ Rel σ2 (G + 60000)) := by
      intro v a0 a1 a3 a4 a5 a6 a7 a8 a9
      refine w_X10_node hn hx hy ?_
      rw [e10, tg, hM.2.2.1]
      refine ⟨fun q => by omega, fun _ => ⟨by omega, fun _ y10 hy10 => ?_, fun q => by omega⟩⟩
      have hy2 : y10 = ((250 * g + i : Nat) : Int) := by omega
      subst hy2
      rw [tK, s1, s2, s3, s4, s5]
      refine ⟨fun q => ⟨by omega, fun z => ?_, fun z => ?_⟩, fun q => ⟨by omega, a1 q, hR⟩, fun q => ⟨a9 (by omega), hR⟩, fun q => ⟨by omega, a3 q, hR⟩, fun q => ⟨by omega, a4 q, hR⟩, fun q => ⟨⟨by omega, by omega⟩, ⟨by omega, by omega⟩, ?_⟩, fun q => ⟨by omega, fun y47 hy47 => ?_⟩, fun q => ?_, fun q => ⟨by omega, a8 q, hR⟩, fun q => ⟨a9 (by omega), hR⟩⟩
      · have hnn : ¬ tPar T i < 0 := by intro w; rw [if_pos w] at z; omega
        rw [if_neg hnn]
        exact ⟨⟨by omega, by omega⟩, by rw [a0 q]; omega, hR⟩
      · have hnn : tPar T i < 0 := by split at z <;> omega
        exact ⟨by rw [a0 q]; omega, hR⟩
      · exact node5_loop hn hg e10 hM hW hi ⟨a5 q, hR⟩
      · have hy47 : y47 = mX g (tPar T i) := hy47
        rw [hy47]
        exact node6_loop hn hg hM hW i 0 hi (by omega) (by omega) ⟨by rw [a6 q]; omega, hR⟩
      · refine (sm_turn hn hg hM.2.2.2 hW hi).mono ?_
        rintro w _ - ⟨rfl, rfl⟩
        exact ⟨a7 q, hR⟩
    rw [ti, r1, r2, r3, r4, r5, r6, r7, r0]
    refine ⟨fun _ => ⟨fun q => ⟨by omega, ref _ (fun _ => rfl) (by omega) (by omega) (by omega) (by omega) (by omega) (by omega) (by omega) (by omega)⟩, fun q => ⟨by omega, ref _ (by omega) (fun _ => rfl) (by omega) (by omega) (by omega) (by omega) (by omega) (by omega) (by omega)⟩, fun q => ref _ (by omega) (by omega) (by omega) (by omega) (by omega) (by omega) (by omega) (by omega) (fun _ => rfl), fun q => ⟨by omega, ref _ (by omega) (by omega) (fun _ => rfl) (by omega) (by omega) (by omega) (by omega) (by omega) (by omega)⟩, fun q => ⟨by omega, ref _ (by omega) (by omega) (by omega) (fun _ => rfl) (by omega) (by omega) (by omega) (by omega) (by omega)⟩, fun q => ⟨by omega, ref _ (by omega) (by omega) (by omega) (by omega) (fun _ => rfl) (by omega) (by omega) (by omega) (by omega)⟩, fun q => ⟨by omega, ref _ (by omega) (by omega) (by omega) (by omega) (by omega) (fun _ => rfl) (by omega) (by omega) (by omega)⟩, fun q => ⟨by omega, ref _ (by omega) (by omega) (by omega) (by omega) (by omega) (by omega) (fun _ => rfl) (by omega) (by omega)⟩, fun q => ⟨by omega, ref _ (by omega) (by omega) (by omega) (by omega) (by omega) (by omega) (by omega) (fun _ => rfl) (by omega)⟩, fun q => ref _ (by omega) (by omega) (by omega) (by omega) (by omega) (by omega) (by omega) (by omega) (fun _ => rfl)⟩, fun q => by omega⟩
  · refine ⟨fun q => by omega, fun _ => w_X10_node hn hx hy ?_⟩
    rw [e10, tg, hM.2.2.1]
    exact ⟨fun _ => ⟨rfl, hR⟩, fun q => ⟨by omega, fun q2 => by omega, fun _ => ⟨rfl, hR⟩⟩⟩
theorem headIff {m s x : Nat} {bd : Nat → Int} (h1 : Chn m bd s x) (h2 : ∀ q, Chn m bd s q → x ≤ q) : (x : Int) = (s : Int) ↔ Head m bd s := by
  constructor
  · intro h
    have : x = s := by omega
    subst this
    exact h2
  · intro h
    have a := h x h1
    have b := h2 s Rch.rf
    omega
theorem count6_loop (hn : 104 ≤ n) {m : Nat} {bd : Nat → Int} {P : Int → ZSto → Prop} (h3 : 3 ≤ m) (h9 : m ≤ 9) (hcon : BCon m bd) (hm : gI σ 73 13 = (m : Int)) (hw : WAll σ bd) (hP : ∀ σ', Fr fldW σ σ' → P (cnt (fun q => bd q ≠ 0 ∧ Head m bd q) (m * m) : Nat) σ') :
    L_X10_count_132 X (d + 2) n (zpI P) 0 0 σ := by
  have hN := sq_le h9
  have mm : (m : Int) * (m : Int) = ((m * m : Nat) : Int) := by simp
  have := upto (N := m * m) (Q := fun j τ => L_X10_count_132 X (d + 2) n (zpI P) (cnt (fun q => bd q ≠ 0 ∧ Head m bd q) j : Nat) (j : Int) τ) (I := fun j τ => Fr fldW σ τ) ?_ ?_ 0 σ (by omega) Fr.rf
  · simpa [cnt] using this
  · intro τ hf
    refine b_X10_count_132 hn ?_
    rw [hf.I (by unfold fldW; omega), hm, mm]
    exact ⟨⟨by omega, by omega⟩, fun _ => hP τ hf, fun q => by omega⟩
  · intro j τ hj hf ih
    have tj : ((j : Int)).toNat = j := by omega
    have hcl := cnt_le (fun q => bd q ≠ 0 ∧ Head m bd q) j
    have hcb := hcon j hj
    have hm' : gI τ 73 13 = (m : Int) := by rw [hf.I (by unfold fldW; omega)]; exact hm
    have hw' : WAll τ bd := fun p hp => by rw [hf.I (by unfold fldW; omega)]; exact hw p hp
    refine b_X10_count_132 hn ?_
    rw [hm', mm, tj, hw' j (by omega)]
    refine ⟨⟨by omega, by omega⟩, fun q => by omega, fun _ => ⟨by omega, fun q => ?_, fun q => ⟨⟨by omega, by omega⟩, ?_⟩⟩⟩
    · refine (sm_flood hn h3 h9 hm' (fun p hp => hw' p (by omega)) hj q ⟨by omega, by omega⟩).mono ?_
      rintro v τ1 - ⟨hF, -⟩
      refine (sm_head hn hF.2.2.1 (fun q hq => (hF.2.1 q hq).1) (s := j) (by omega) Rch.rf).mono ?_
      rintro v2 _ - ⟨rfl, x, rfl, hx1, hx2, hx3⟩
      have hh := headIff hx1 hx3
      have := ih τ1 (hf.tr hF.1)
      refine ⟨fun q2 => ⟨⟨by omega, by omega⟩, ⟨by omega, by omega⟩, ?_⟩, fun q2 => ⟨⟨by omega, by omega⟩, ⟨by omega, by omega⟩, ?_⟩⟩
      · rw [cnt_n (P := fun q => bd q ≠ 0 ∧ Head m bd q) (n := j) (fun z => q2 (hh.mpr z.2))] at this
        simpa using this
      · rw [cnt_s (P := fun q => bd q ≠ 0 ∧ Head m bd q) (n := j) ⟨q, hh.mp q2⟩] at this
        simpa using this
    · have := ih τ hf
      rw [cnt_n (P := fun q => bd q ≠ 0 ∧ Head m bd q) (n := j) (fun z => z.1 q)] at this
      simpa using this
theorem count7_loop (hn : 104 ≤ n) {m : Nat} {bd : Nat → Int} {P : Int → ZSto → Prop} (h9 : m ≤ 9) (hm : gI σ 73 13 = (m : Int)) (hw : WAll σ bd) (hP : P (cnt (fun q => bd q ≠ 0) (m * m) : Nat) σ) :
    L_X10_count_195 X d n (zpI P) 0 0 σ := by
  have hN := sq_le h9
  have mm : (m : Int) * (m : Int) = ((m * m : Nat) : Int) := by simp
  have := upto (N := m * m) (Q := fun j τ => L_X10_count_195 X d n (zpI P) (cnt (fun q => bd q ≠ 0) j : Nat) (j : Int) τ) (I := fun j τ => σ = τ) ?_ ?_ 0 σ (by omega) rfl
  · simpa [cnt] using this
  · rintro _ rfl
    refine b_X10_count_195 hn ?_
    rw [hm, mm]
    exact ⟨⟨by omega, by omega⟩, fun _ => hP, fun q => by omega⟩
  · rintro j _ hj rfl ih
    have tj : ((j : Int)).toNat = j := by omega
    have hcl := cnt_le (fun q => bd q ≠ 0) j
    have := ih σ rfl
    refine b_X10_count_195 hn ?_
    rw [hm, mm, tj, hw j (by omega)]
    refine ⟨⟨by omega, by omega⟩, fun q => by omega, fun _ => ⟨by omega, fun q => ⟨⟨by omega, by omega⟩, ⟨by omega, by omega⟩, ?_⟩, fun q => ⟨⟨by omega, by omega⟩, ⟨by omega, by omega⟩, ?_⟩⟩⟩
    · rw [cnt_n (P := fun q => bd q ≠ 0) (n := j) (fun z => z q)] at this
      simpa using this
    · rw [cnt_s (P := fun q => bd q ≠ 0) (n := j) q] at this
      simpa using this
theorem op_count (hn : 104 ≤ n) (h : Rel σ G) (hG : G ≤ 1900000000) {x : Int} (hx : R32 x) : ZkI X M_X9_count (d + 4) n [.ref (zB X + 0), iV x] σ (fun v σ1 => ZkI X M_X10_count (d + 3) n [.ref (zB X + 73), iV x] σ1 (fun w σ2 => v = w ∧ Rel σ2 (G + 60000))) := by
  have hR := h
  have hn' : 73 ≤ n := by omega
  obtain ⟨h1, h2, h3, t, g, m, k, pl, c, T, hGm, hB, hB2, g1, g2⟩ := h
  obtain ⟨ht, hg, p0, p1, e10, e11, e16, hpk, hW, hTS, hc, hC, hM⟩ := hGm
  have hk2 := hW.2.2.1
  have hN := sq_le hW.2.1
  have tg : ((g : Int)).toNat = g := by omega
  -- the reference
  have ref : ∀ (τ : ZSto) (v : Int), Fr (gatW 33) σ τ → (∀ m bd, BOk σ 33 m bd → BOk τ 33 m bd) → gI τ 33 10 ≤ gI σ 33 10 + 50000 → (x = 0 → v = (k : Int)) → (x = 1 → v = (pl : Int)) → (x = 2 → v = (m : Int)) → (x = 3 → v = c) → (x = 4 → v = tTrn T pl) → (x = 5 → (v = 1 ∧ Over T pl) ∨ (v = 0 ∧ ¬ Over T pl)) → (x = 6 → v = (cnt (fun q => tBrd T pl q ≠ 0 ∧ Head m (tBrd T pl) q) (m * m) : Nat)) → (x = 7 → v = (cnt (fun q => tBrd T pl q ≠ 0) (m * m) : Nat)) → (x = 8 → v = gI σ 29 1) → (x = 9 → v = gI σ 0 13) → ((x < 0 ∨ 9 < x) → v = -1) → ZkI X M_X10_count (d + 3) n [.ref (zB X + 73), iV x] τ (fun w σ2 => v = w ∧ Rel σ2 (G + 60000)) := by
    intro τ v hf hBk hgk a0 a1 a2 a3 a4 a5 a6 a7 a8 a9 a10
    have n10 : gI τ 73 10 = (g : Int) := by rw [hf.I (by unfold gatW; omega)]; exact e10
    have n11 : gI τ 73 11 = ((250 * g + pl : Nat) : Int) := by rw [hf.I (by unfold gatW; omega)]; exact e11
    have hM' := hM.kept hk2 hf (fun a i q => by unfold mtrD at q; unfold gatW; omega)
    refine w_X10_count hn hx ((sm_shows hn hg n10 n11 hM' hW hpk).mono ?_)
    rintro w σ1 - ⟨-, f1, w1, m1⟩
    have R1 : ∀ σ2, Fr (fun a i => shwW a i ∨ fldW a i) σ1 σ2 → Rel σ2 (G + 60000) := fun σ2 f => hR.ask hf hBk hgk ((f1.mono (fun a i q => Or.inl q)).tr f)
    have hM1 := hM'.kept hk2 f1 (fun a i q => by unfold mtrD at q; unfold shwW; omega)
    rw [f1.I (a := 73) (i := 10) (by unfold shwW; omega), f1.I (a := 73) (i := 11) (by unfold shwW; omega), n10, n11, tg, hM1.2.2.1, hM1.2.1, m1]
    refine ⟨fun q => ⟨by omega, a0 q, R1 _ Fr.rf⟩, fun q => ⟨⟨by omega, by omega⟩, by rw [a1 q]; omega, R1 _ Fr.rf⟩, fun q => ⟨a2 q, R1 _ Fr.rf⟩, fun q => ⟨by omega, a3 q, R1 _ Fr.rf⟩, fun q => ?_, fun q => ?_, fun q => count6_loop hn hW.1 hW.2.1 (hW.con hpk) m1 w1 (fun σ' f => ⟨a6 q, R1 σ' (f.mono (fun a i z => Or.inr z))⟩), fun q => count7_loop hn hW.2.1 m1 w1 ⟨a7 q, R1 _ Fr.rf⟩, fun q => ⟨?_, R1 _ Fr.rf⟩, fun q => ⟨?_, R1 _ Fr.rf⟩, fun q => ⟨a10 q, R1 _ Fr.rf⟩⟩
    · refine (sm_turn hn hg hM1.2.2.2 hW hpk).mono ?_
      rintro w _ - ⟨rfl, rfl⟩
      exact ⟨a4 q, R1 _ Fr.rf⟩
    · refine (sm_isOver hn hg hM1.2.2.2 hW hpk).mono ?_
      rintro w _ - ⟨rfl, hw⟩
      have := a5 q
      refine ⟨fun z => ⟨?_, R1 _ Fr.rf⟩, fun z => ⟨?_, R1 _ Fr.rf⟩⟩
      · rcases this with ⟨b1, b2⟩ | ⟨b1, b2⟩
        · rcases hw with ⟨c1, c2⟩ | ⟨c1, c2⟩
          · omega
          · exact absurd b2 c2
        · exact b1
      · rcases this with ⟨b1, b2⟩ | ⟨b1, b2⟩
        · exact b1
        · rcases hw with ⟨c1, c2⟩ | ⟨c1, c2⟩
          · exact absurd c2 b2
          · omega
    · rw [f1.I (by unfold shwW; omega), hf.I (by unfold gatW; omega), a8 q, h1.2.1.2.1]
    · rw [f1.I (by unfold shwW; omega), hf.I (by unfold gatW; omega), a9 q, h1.2.2.2.2.1]
  have ref0 : ∀ v : Int, (x = 0 → v = (k : Int)) → (x = 1 → v = (pl : Int)) → (x = 2 → v = (m : Int)) → (x = 3 → v = c) → (x = 4 → v = tTrn T pl) → (x = 5 → (v = 1 ∧ Over T pl) ∨ (v = 0 ∧ ¬ Over T pl)) → (x = 6 → v = (cnt (fun q => tBrd T pl q ≠ 0 ∧ Head m (tBrd T pl) q) (m * m) : Nat)) → (x = 7 → v = (cnt (fun q => tBrd T pl q ≠ 0) (m * m) : Nat)) → (x = 8 → v = gI σ 29 1) → (x = 9 → v = gI σ 0 13) → ((x < 0 ∨ 9 < x) → v = -1) → ZkI X M_X10_count (d + 3) n [.ref (zB X + 73), iV x] σ (fun w σ2 => v = w ∧ Rel σ2 (G + 60000)) := fun v => ref σ v Fr.rf (fun _ _ z => z) (by omega)
  refine w_X9_count hn' hx ⟨fun q => ⟨t, p0, ht, ?_⟩, fun q => ⟨t, p0, ht, ?_⟩, fun q => ⟨t, p0, ht, ?_⟩, fun q => ⟨t, p0, ht, ?_⟩, fun q => ⟨t, p0, ht, ?_⟩, fun q => ⟨t, p0, ht, ?_⟩, fun q => ?_, fun q => ?_, fun q => ?_, fun q => ?_, fun q => ?_⟩
  · exact ref0 _ (fun _ => hC.2.2.1) (by omega) (by omega) (by omega) (by omega) (by omega) (by omega) (by omega) (by omega) (by omega) (by omega)
  · exact ref0 _ (by omega) (fun _ => e16) (by omega) (by omega) (by omega) (by omega) (by omega) (by omega) (by omega) (by omega) (by omega)
  · exact ref0 _ (by omega) (by omega) (fun _ => hC.1) (by omega) (by omega) (by omega) (by omega) (by omega) (by omega) (by omega) (by omega)
  · exact ref0 _ (by omega) (by omega) (by omega) (fun _ => hC.2.1) (by omega) (by omega) (by omega) (by omega) (by omega) (by omega) (by omega)
  · rw [e16]
    refine (sp_turnAt hn' ht hC hk2 hpk).mono ?_
    rintro v _ - ⟨rfl, rfl⟩
    exact ref0 _ (by omega) (by omega) (by omega) (by omega) (fun _ => rfl) (by omega) (by omega) (by omega) (by omega) (by omega) (by omega)
  · rw [e16]
    refine (sp_isOver hn' ht hC hW hpk).mono ?_
    rintro v _ - ⟨rfl, hv⟩
    refine ⟨fun z => ref0 _ (by omega) (by omega) (by omega) (by omega) (by omega) (fun _ => ?_) (by omega) (by omega) (by omega) (by omega) (by omega), fun z => ref0 _ (by omega) (by omega) (by omega) (by omega) (by omega) (fun _ => ?_) (by omega) (by omega) (by omega) (by omega) (by omega)⟩
    · rcases hv with ⟨z1, _⟩ | ⟨_, z2⟩
      · omega
      · exact Or.inr ⟨rfl, z2⟩
    · rcases hv with ⟨_, z2⟩ | ⟨z1, _⟩
      · exact Or.inl ⟨rfl, z2⟩
      · omega
  · refine (sp_countChains hn' (Or.inl rfl) hB (by omega)).mono ?_
    rintro v σ1 - ⟨f1, b1, g1', rfl⟩
    exact ref σ1 _ f1 (fun m bd hb => hb.gat f1 b1.2.2.2) (by omega) (by omega) (by omega) (by omega) (by omega) (by omega) (by omega) (fun _ => rfl) (by omega) (by omega) (by omega) (by omega)
  · refine (sp_countOf hn' (Or.inl rfl) hB.1 hB.2.2.1 (c := 1) ⟨by omega, by omega⟩).mono ?_
    rintro v _ - ⟨rfl, rfl⟩
    refine (sp_countOf hn' (Or.inl rfl) hB.1 hB.2.2.1 (c := 2) ⟨by omega, by omega⟩).mono ?_
    rintro v2 _ - ⟨rfl, rfl⟩
    have hl1 := cnt_le (fun q => tBrd T pl q = 1) (m * m)
    have hl2 := cnt_le (fun q => tBrd T pl q = 2) (m * m)
    refine ⟨⟨by omega, by omega⟩, ref0 _ (by omega) (by omega) (by omega) (by omega) (by omega) (by omega) (by omega) (fun _ => ?_) (by omega) (by omega) (by omega)⟩
    have e := cnt_or (P := fun q => tBrd T pl q = 1) (Q := fun q => tBrd T pl q = 2) (n := m * m) (fun i _ z => by omega)
    have e2 : cnt (fun q => tBrd T pl q ≠ 0) (m * m) = cnt (fun i => tBrd T pl i = 1 ∨ tBrd T pl i = 2) (m * m) := cnt_congr (fun i hi => by have := hW.con hpk i hi; omega)
    rw [e2, e]; simp
  · exact ref0 _ (by omega) (by omega) (by omega) (by omega) (by omega) (by omega) (by omega) (by omega) (fun _ => rfl) (by omega) (by omega)
  · exact ref0 _ (by omega) (by omega) (by omega) (by omega) (by omega) (by omega) (by omega) (by omega) (by omega) (fun _ => rfl) (by omega)
  · exact ref0 _ (by omega) (by omega) (by omega) (by omega) (by omega) (by omega) (by omega) (by omega) (by omega) (by omega) (fun _ => rfl)
end ZR
