theorem ndR_inv {B : Nat → Int} {L : Nat} {ko : Int} {i i0 st : Nat} {stk : List Int} {bh : Int} {k : Nat} {T : ATr} {m : Nat} {c : Int} {r : Nat × ND × ATr} (h : PI st stk bh k T m c i0) (hi0 : i0 ≤ i) (hst : st = 1 ∨ st = 2) (hk : k < 250) (hi : i < L) (he : ndR B L ko i bh k T m c = .inr r) : PI 2 stk (k : Int) (k + 1) r.2.2 (nSz r.2.1) (nKm r.2.1) r.1 ∧ i < r.1 ∧ r.1 ≤ L := by
  obtain ⟨i1, i2, i3⟩ := nd0_i (k := k) (m := m) (c := c) h.1 h.2.1
  have hs := skp_ge (B := B) (L := L) (i + 1)
  unfold ndR at he
  cases hp : psF B L (decide (k = 0)) L (skp B L (i + 1)) (nd0 m c) with
  | inl f => rw [hp] at he; cases he
  | inr s =>
    obtain ⟨q', x⟩ := s
    rw [hp] at he
    simp only at he
    cases hst2 : stF ko k bh T x with
    | inl e => rw [hst2] at he; cases he
    | inr T' =>
      rw [hst2] at he
      have e := Sum.inr.inj he
      subst e
      have h4 := h.2.2.2.1
      obtain ⟨r1, r2, r3, r4, r5⟩ := psF_inv (base := 4 * sumT T k) (c := c) (m := m) L (skp B L (i + 1)) (nd0 m c) q' x i1 i2 (by rw [i3]; omega) (hs.2 (by omega)) hp
      refine ⟨stF_inv h hst hk r1 r3 hst2, ?_, r5⟩
      show i < q'
      omega
section ZC
variable {X : ZX} {d n : Nat} {B : Nat → Int} {L : Nat}
theorem tx_stop (hn : 73 ≤ n) {r : Int} {P : Int → ZSto → Prop} {σ : ZSto} (h8 : ¬ gI σ 49 8 = 0) (hP : P (gI σ 49 8) σ) : L_X5_readText_8 X d n (zpI P) r σ :=
  b_X5_readText_8 hn ⟨fun _ => hP, fun _ => ⟨fun _ => hP, fun z => absurd z h8⟩⟩
theorem tx_fail (hn : 73 ≤ n) {r z D : Nat} {e : Int} {P : Int → ZSto → Prop} {σ : ZSto} (he : ¬ e = 0) (her : R32 e) (hz : z ≤ 1500) (hr : r ≤ 1500) (hP : ∀ σ', Fr (fun a j => a = 49 ∧ (j = 8 ∨ j = 9)) σ σ' → gI σ' 49 8 = e → gI σ' 49 9 = (z : Int) → P (gI σ' 49 8) σ') : ZkV X M_X5_fail (d + 1) n [.ref (zB X + 49), iV e, iV (z : Int)] σ (fun σ5 => R32 ((r : Int) + 1) ∧ L_X5_readText_8 X D n (zpI P) ((r : Int) + 1) σ5) := by
  refine (sp_fail hn her ⟨by omega, by omega⟩).mono ?_
  rintro σ1 ⟨f1, e1, e2⟩
  exact ⟨⟨by omega, by omega⟩, tx_stop hn (by rw [e1]; exact he) (hP σ1 f1 e1 e2)⟩
theorem by_y {B : Nat → Int} {L q : Nat} {b v : Int} (hb : (q < L ∧ b = B q) ∨ (L ≤ q ∧ b = -1)) (hv : 0 ≤ v) (y : b = v) : q < L ∧ B q = v := by omega
theorem by_n {B : Nat → Int} {L q : Nat} {b v : Int} (hb : (q < L ∧ b = B q) ∨ (L ≤ q ∧ b = -1)) (y : ¬ b = v) : ¬ (q < L ∧ B q = v) := by omega
theorem tx_opn (hn : 73 ≤ n) {t : Nat} {ko : Int} {σ0 σ1 : ZSto} {P : Int → ZSto → Prop} {D q st r k m : Nat} {stk : List Int} {bh c : Int} {T : ATr} (ht : zIsT t) (F1 : Fr (rdW t) σ0 σ1) (R1 : RdC σ1 t ko q st stk bh k T m c) (hlen : stk.length ≤ 250) (hq : q ≤ 1500) (hr : r ≤ 1500)
    (K : ∀ σ', Fr (rdW t) σ0 σ' → RdC σ' t ko (q + 1) 1 (bh :: stk) bh k T m c → gI σ' 41 10 = gI σ1 41 10 → L_X5_readText_8 X D n (zpI P) ((r + 1 : Nat) : Int) σ') : ZkV X M_X5_openTree (d + 1) n [.ref (zB X + 49)] σ1 (fun σ14 => R32 ((r : Int) + 1) ∧ L_X5_readText_8 X D n (zpI P) ((r : Int) + 1) σ14) := by
  have ht2 : t = 1 ∨ t = 15 := ht
  obtain ⟨x1, x2, x3, x4, x5, x6, x7, x8, x9, x10, x11⟩ := R1
  refine w_X5_openTree hn ?_
  rw [x7, x3, x8]
  refine ⟨fun z => by omega, fun _ => ⟨fun z => by omega, fun _ => ⟨by omega, ⟨by omega, by omega⟩, ⟨by omega, by omega⟩, ⟨by omega, by omega⟩, ?_⟩⟩⟩
  rw [show ((stk.length : Int)).toNat = stk.length by omega]
  have fs : Fr (fun a j => (a = 49 ∧ (j = 6 ∨ j = 7 ∨ j = 10)) ∨ (a = 50 ∧ j = stk.length)) σ1 (sI (sI (sI (sI σ1 50 stk.length bh) 49 10 ((stk.length : Int) + 1)) 49 6 ((q : Int) + 1)) 49 7 1) := (((Fr.rf.sI (by omega)).sI (by omega)).sI (by omega)).sI (by omega)
  have := K _ (F1.tr (fs.mono (fun a j y => by unfold rdW; omega))) ⟨by rw [fs.P (by omega)]; exact x1, by rw [fs.I (by omega)]; exact x2, by rw [gI_f (by omega), gI_same]; omega, gI_same _ _ _ _, by rw [fs.I (by omega)]; exact x5, by rw [fs.I (by omega)]; exact x6, by rw [gI_f (by omega), gI_f (by omega), gI_same]; simp, by rw [fs.I (by omega)]; exact x8, ⟨by rw [gI_c (by omega), gI_c (by omega), gI_c (by omega), gI_same], x9.kept fs (fun i hi => by omega)⟩, x10.kept fs (fun a i y => by unfold ctrD at y; omega), x11.kept2 fs (fun a i y => by unfold brdX at y; omega)⟩ (by rw [fs.I (by omega)])
  simpa using this
theorem tx_cls (hn : 73 ≤ n) {t : Nat} {ko : Int} {σ0 σ1 : ZSto} {P : Int → ZSto → Prop} {D q st r k m : Nat} {ys : List Int} {y bh c : Int} {T : ATr} (ht : zIsT t) (F1 : Fr (rdW t) σ0 σ1) (R1 : RdC σ1 t ko q st (y :: ys) bh k T m c) (hlen : ys.length ≤ 250) (hq : q ≤ 1500) (hr : r ≤ 1500)
    (K : ∀ σ', Fr (rdW t) σ0 σ' → RdC σ' t ko (q + 1) (if ys = [] then 4 else 3) ys y k T m c → gI σ' 41 10 = gI σ1 41 10 → L_X5_readText_8 X D n (zpI P) ((r + 1 : Nat) : Int) σ') : ZkV X M_X5_closeTree (d + 1) n [.ref (zB X + 49)] σ1 (fun σ9 => R32 ((r : Int) + 1) ∧ L_X5_readText_8 X D n (zpI P) ((r : Int) + 1) σ9) := by
  have ht2 : t = 1 ∨ t = 15 := ht
  obtain ⟨x1, x2, x3, x4, x5, x6, x7, x8, x9, x10, x11⟩ := R1
  simp only [List.length_cons] at x7
  have rr : R32 ((r : Int) + 1) := ⟨by omega, by omega⟩
  refine w_X5_closeTree hn ?_
  rw [x7, x3]
  refine ⟨fun z => by omega, fun _ => ⟨fun z => by omega, fun _ => ⟨⟨by omega, by omega⟩, by omega, ⟨by omega, by omega⟩, ?_⟩⟩⟩
  rw [show ((ys.length + 1 : Nat) : Int) - 1 = (ys.length : Int) by omega, show ((ys.length : Int)).toNat = ys.length by omega, x9.1]
  have go2 : ∀ st' : Nat, st' = (if ys = [] then 4 else 3) → L_X5_readText_8 X D n (zpI P) ((r : Int) + 1) (sI (sI (sI (sI σ1 49 10 (ys.length : Int)) 49 11 y) 49 6 ((q : Int) + 1)) 49 7 (st' : Int)) := by
    intro st' hst'
    have fs : Fr (fun a j => a = 49 ∧ (j = 6 ∨ j = 7 ∨ j = 10 ∨ j = 11)) σ1 (sI (sI (sI (sI σ1 49 10 (ys.length : Int)) 49 11 y) 49 6 ((q : Int) + 1)) 49 7 (st' : Int)) := (((Fr.rf.sI (by omega)).sI (by omega)).sI (by omega)).sI (by omega)
    have := K _ (F1.tr (fs.mono (fun a j y => by unfold rdW; omega))) ⟨by rw [fs.P (by omega)]; exact x1, by rw [fs.I (by omega)]; exact x2, by rw [gI_f (by omega), gI_same]; omega, by rw [gI_same, hst'], by rw [fs.I (by omega)]; exact x5, by rw [fs.I (by omega)]; exact x6, by rw [gI_f (by omega), gI_f (by omega), gI_f (by omega), gI_same], by rw [gI_f (by omega), gI_f (by omega), gI_same], x9.2.kept fs (fun i _ => by omega), x10.kept fs (fun a i y => by unfold ctrD at y; omega), x11.kept2 fs (fun a i y => by unfold brdX at y; omega)⟩ (by rw [fs.I (by omega)])
    simpa using this
  refine ⟨fun z => ⟨rr, ?_⟩, fun z => ⟨rr, ?_⟩⟩
  · have hys : ¬ ys = [] := fun u => by rw [u] at z; exact z rfl
    exact go2 3 (by rw [if_neg hys])
  · have hys : ys = [] := List.eq_nil_of_length_eq_zero (by omega)
    exact go2 4 (by rw [if_pos hys])
/-- what the text's loop ends in -/
def TxP (t : Nat) (σ0 : ZSto) (res : (Int × Nat) ⊕ (Nat × ATr × Nat × Int)) (v : Int) (σ' : ZSto) : Prop := Fr (rdW t) σ0 σ' ∧ BPre σ' 41 ∧ gI σ' 41 10 ≤ gI σ0 41 10 + 25200 ∧ TxR σ' t v res
theorem tx_flt {t : Nat} {σ0 σ1 σ' : ZSto} {res : (Int × Nat) ⊕ (Nat × ATr × Nat × Int)} {e : Int} {z : Nat} (ht : zIsT t) (F1 : Fr (rdW t) σ0 σ1) (B1 : BPre σ1 41) (g1 : gI σ1 41 10 ≤ gI σ0 41 10 + 25200) (he : ¬ e = 0) (hre : res = .inl (e, z)) (f2 : Fr (fun a j => a = 49 ∧ (j = 8 ∨ j = 9)) σ1 σ') (q1 : gI σ' 49 8 = e) (q2 : gI σ' 49 9 = (z : Int)) : TxP t σ0 res (gI σ' 49 8) σ' := by
  refine ⟨F1.tr (f2.mono (fun a j y => by unfold rdW; omega)), B1.kept2 f2 (fun a i y => by unfold brdX at y; omega), by rw [f2.I (by omega)]; exact g1, ?_⟩
  rw [hre]
  exact ⟨q1, q2, he⟩
theorem tx_rest (hn : 73 ≤ n) {P : Int → ZSto → Prop} {t : Nat} {ko b : Int} {σ0 σ1 : ZSto} {w i q st r k m : Nat} {stk : List Int} {bh c : Int} {T : ATr} {res : (Int × Nat) ⊕ (Nat × ATr × Nat × Int)} (ht : zIsT t) (hT1 : TpC σ1 B L) (F1 : Fr (rdW t) σ0 σ1) (R1 : RdC σ1 t ko q st stk bh k T m c) (hPq : PI st stk bh k T m c q) (hb : (q < L ∧ b = B q) ∨ (L ≤ q ∧ b = -1)) (hq : skp B L i = q) (hq15 : q ≤ 1500) (hr : r ≤ 1500) (g1 : gI σ1 41 10 ≤ gI σ0 41 10 + 25200) (hres : res = mnF B L ko (w + 1) i st stk bh k T m c) (hno : ¬ (q < L ∧ B q = 59 ∧ (st = 1 ∨ st = 2))) (hP : ∀ v σ', TxP t σ0 res v σ' → P v σ')
    (K : ∀ st' stk' bh' σ', Fr (rdW t) σ0 σ' → RdC σ' t ko (q + 1) st' stk' bh' k T m c → PI st' stk' bh' k T m c (q + 1) → gI σ' 41 10 = gI σ1 41 10 → q < L → res = mnF B L ko w (q + 1) st' stk' bh' k T m c → L_X5_readText_8 X (d + 6) n (zpI P) ((r + 1 : Nat) : Int) σ') :
    L_X5_readText_69 X (d + 6) n (zpI P) (r : Int) b σ1 := by
  obtain ⟨m1, m2, m3, m4⟩ := mnF_rest (B := B) (L := L) (ko := ko) (w := w) (i := i) (st := st) (stk := stk) (bh := bh) (k := k) (T := T) (m := m) (c := c) (by rw [hq]; exact hno)
  rw [hq] at m1 m2 m3 m4
  have e6 := R1.2.2.1
  have e7 := R1.2.2.2.1
  have e8 := R1.2.2.2.2.1
  have B1 := R1.2.2.2.2.2.2.2.2.2.2
  have hk250 := hPq.2.2.1.2.2.1
  have last : (¬ (q < L ∧ B q = 40 ∧ ¬ st = 1 ∧ ¬ st = 4)) → ¬ (q < L ∧ B q = 41 ∧ (st = 2 ∨ st = 3)) → L_X5_readText_129 X (d + 6) n (zpI P) (r : Int) b σ1 := by
    intro n1 n2
    refine b_X5_readText_129 hn ?_
    rw [e6, e7]
    have f : ¬ (L ≤ q ∧ st = 4) → ZkV X M_X5_fail (d + 6) n [.ref (zB X + 49), iV 1, iV (q : Int)] σ1 (fun σ5 => R32 ((r : Int) + 1) ∧ L_X5_readText_8 X (d + 6) n (zpI P) ((r : Int) + 1) σ5) := fun n3 => tx_fail (e := 1) (z := q) (r := r) hn (by decide) ⟨by decide, by decide⟩ hq15 hr (fun σ' f2 q1 q2 => hP _ _ (tx_flt ht F1 B1 g1 (by decide) (by rw [hres]; exact m4 n1 n2 n3) f2 q1 q2))
    refine ⟨fun y => f (fun u => by
      rcases hb with h | h
      · exact absurd u.1 (Nat.not_le.mpr h.1)
      · exact y h.2), fun y => ⟨fun y2 => f (fun u => y2 (by rw [u.2]; rfl)), fun y2 => ?_⟩⟩
    have hend : L ≤ q ∧ st = 4 := by
      refine ⟨?_, by exact_mod_cast y2⟩
      rcases hb with h | h
      · have := (hT1.2.2 q h.1).2.1
        rw [← h.2, y] at this
        exact absurd this (by decide)
      · exact h.1
    rw [e8]
    refine hP _ _ ⟨F1, B1, g1, ?_⟩
    rw [hres, m3 hend]
    obtain ⟨a1, a2, a3, a4, a5, a6, a7, a8, a9, a10, a11⟩ := hPq
    refine ⟨rfl, R1.2.2.2.2.2.1, R1.2.2.2.2.2.2.2.2.2.1, a3, ?_, (a10 hend.2).2, a2⟩
    show 4 * sumT T k ≤ 1500
    exact Nat.le_trans a4 hq15
  have cls : ¬ (q < L ∧ B q = 40 ∧ ¬ st = 1 ∧ ¬ st = 4) → L_X5_readText_99 X (d + 6) n (zpI P) (r : Int) b σ1 := by
    intro n1
    have go : q < L ∧ B q = 41 ∧ (st = 2 ∨ st = 3) → ZkV X M_X5_closeTree (d + 6) n [.ref (zB X + 49)] σ1 (fun σ9 => R32 ((r : Int) + 1) ∧ L_X5_readText_8 X (d + 6) n (zpI P) ((r : Int) + 1) σ9) := by
      intro hc
      obtain ⟨hne, hlen⟩ := hPq.2.2.2.2.2.2.2.2.1 hc.2.2
      rcases hstk : stk with _ | ⟨y, ys⟩
      · exact absurd hstk hne
      have hres' := m2 y ys hc hstk
      rw [hstk] at hPq R1 hlen
      simp only [List.length_cons] at hlen
      exact tx_cls hn ht F1 R1 (by omega) hq15 hr (fun σ' k1 k2 k3 => K _ _ _ σ' k1 k2 (hPq.close hc.2.2 (Nat.le_succ q)) k3 hc.1 (by rw [hres, hres']))
    refine b_X5_readText_99 hn ?_
    rw [e7]
    exact ⟨fun y => last n1 (fun u => by_n hb y ⟨u.1, u.2.1⟩), fun y => ⟨fun y2 => go ⟨(by_y hb (by decide) y).1, (by_y hb (by decide) y).2, Or.inl (by exact_mod_cast y2)⟩, fun y2 => ⟨fun y3 => last n1 (fun u => u.2.2.elim (fun v => y2 (by rw [v]; rfl)) (fun v => y3 (by rw [v]; rfl))), fun y3 => go ⟨(by_y hb (by decide) y).1, (by_y hb (by decide) y).2, Or.inr (by exact_mod_cast y3)⟩⟩⟩⟩
  refine b_X5_readText_69 hn ?_
  rw [e7]
  refine ⟨fun y => cls (fun u => by_n hb y ⟨u.1, u.2.1⟩), fun y => ⟨fun y2 => cls (fun u => u.2.2.1 (by exact_mod_cast y2)), fun y2 => ⟨fun y3 => cls (fun u => u.2.2.2 (by exact_mod_cast y3)), fun y3 => ?_⟩⟩⟩
  have hc : q < L ∧ B q = 40 ∧ ¬ st = 1 ∧ ¬ st = 4 := ⟨(by_y hb (by decide) y).1, (by_y hb (by decide) y).2, fun u => y2 (by rw [u]; rfl), fun u => y3 (by rw [u]; rfl)⟩
  have hlen : stk.length ≤ k := by
    obtain ⟨a1, a2, a3, a4, a5, a6, a7, a8, a9, a10, a11⟩ := hPq
    by_cases z0 : st = 0
    · rw [(a7 z0).1]; simp
    · exact (a9 (by omega)).2
  exact tx_opn hn ht F1 R1 (Nat.le_trans hlen hk250) hq15 hr (fun σ' k1 k2 k3 => K _ _ _ σ' k1 k2 (hPq.opn hc.2.2.1 hc.2.2.2 (Nat.le_succ q)) k3 hc.1 (by rw [hres]; exact m1 hc))
theorem tx_node (hn : 73 ≤ n) {P : Int → ZSto → Prop} {t : Nat} {ko : Int} {σ0 σ1 : ZSto} {w i q st r k m : Nat} {stk : List Int} {bh c : Int} {T : ATr} {res : (Int × Nat) ⊕ (Nat × ATr × Nat × Int)} (ht : zIsT t) (hT1 : TpC σ1 B L) (hko : R32 ko) (F1 : Fr (rdW t) σ0 σ1) (R1 : RdC σ1 t ko q st stk bh k T m c) (hPq : PI st stk bh k T m c q) (hq : skp B L i = q) (hq15 : q ≤ 1500) (hr : r ≤ 1500) (g0 : gI σ0 41 10 < 1999900000) (g1 : gI σ1 41 10 ≤ gI σ0 41 10 + 100 * k) (hres : res = mnF B L ko (w + 1) i st stk bh k T m c) (hc : q < L ∧ B q = 59 ∧ (st = 1 ∨ st = 2)) (hP : ∀ v σ', TxP t σ0 res v σ' → P v σ')
    (K : ∀ (s : Nat × ND × ATr) σ', Fr (rdW t) σ0 σ' → RdC σ' t ko s.1 2 stk (k : Int) (k + 1) s.2.2 (nSz s.2.1) (nKm s.2.1) → PI 2 stk (k : Int) (k + 1) s.2.2 (nSz s.2.1) (nKm s.2.1) s.1 → gI σ' 41 10 ≤ gI σ0 41 10 + 100 * ((k + 1 : Nat) : Int) → q < s.1 → s.1 ≤ L → res = mnF B L ko w s.1 2 stk (k : Int) (k + 1) s.2.2 (nSz s.2.1) (nKm s.2.1) → L_X5_readText_8 X (d + 6) n (zpI P) ((r + 1 : Nat) : Int) σ') :
    ZkV X M_X5_readNode (d + 6) n [.ref (zB X + 49)] σ1 (fun σ27 => R32 ((r : Int) + 1) ∧ L_X5_readText_8 X (d + 6) n (zpI P) ((r : Int) + 1) σ27) := by
  have ht2 : t = 1 ∨ t = 15 := ht
  have hmn := mnF_node (B := B) (L := L) (ko := ko) (w := w) (i := i) (st := st) (stk := stk) (bh := bh) (k := k) (T := T) (m := m) (c := c) (by rw [hq]; exact hc)
  rw [hq] at hmn
  rw [hmn] at hres
  have hk250 := hPq.2.2.1.2.2.1
  have R1' := R1
  obtain ⟨x1, x2, x3, x4, x5, x6, x7, x8, x9, x10, x11⟩ := R1'
  by_cases hk : k = 250
  · rw [if_pos hk] at hres
    refine w_X5_readNode hn ⟨t, x1, ht, ?_⟩
    rw [x10.2.2.1, x3]
    exact ⟨fun y => by omega, fun _ => tx_fail (e := 6) (z := q) (r := r) hn (by decide) ⟨by decide, by decide⟩ hq15 hr (fun σ' f2 q1 q2 => hP _ _ (tx_flt ht F1 x11 (by omega) (by decide) hres f2 q1 q2))⟩
  · rw [if_neg hk] at hres
    refine (sp_readNode hn ht hT1 R1 hPq hc.2.2 hc.1 (by omega) hko (by omega)).mono ?_
    rintro σ2 ⟨f2, b2, g2, n2, e72⟩
    have F2 : Fr (rdW t) σ0 σ2 := F1.tr (f2.mono (fun a j y => by unfold ndW brdW at y; unfold rdW brdW; omega))
    refine ⟨⟨by omega, by omega⟩, ?_⟩
    cases hv : ndR B L ko q bh k T m c with
    | inl f =>
      rw [hv] at n2 hres
      obtain ⟨n3, n4, n5⟩ := n2
      refine tx_stop hn (by rw [n3]; exact n5) (hP _ _ ⟨F2, b2, by omega, ?_⟩)
      rw [hres]
      exact ⟨n3, n4, n5⟩
    | inr s =>
      rw [hv] at n2 hres
      obtain ⟨n3, n4, n5, n6⟩ := n2
      obtain ⟨P2, p3, p4⟩ := ndR_inv hPq (Nat.le_refl _) hc.2.2 (by omega) hc.1 hv
      have := K s σ2 F2 ⟨by rw [f2.P (by unfold ndW brdW; omega)]; exact x1, by rw [f2.I (by unfold ndW brdW; omega)]; exact x2, n4, by rw [e72]; rfl, n3.1, n3.2, by rw [f2.I (by unfold ndW brdW; omega)]; exact x7, n5, x9.kept f2 (fun i _ => by unfold ndW brdW; omega), n6, b2⟩ P2 (by omega) p3 p4 hres
      simpa using this
theorem tx_loop (hn : 73 ≤ n) {P : Int → ZSto → Prop} {t : Nat} {ko : Int} {σ0 : ZSto} (ht : zIsT t) (hT0 : TpC σ0 B L) (hko : R32 ko) (hg : gI σ0 41 10 < 1999900000) {res : (Int × Nat) ⊕ (Nat × ATr × Nat × Int)} (hP : ∀ v σ', TxP t σ0 res v σ' → P v σ') : ∀ (w i st : Nat) (stk : List Int) (bh : Int) (k : Nat) (T : ATr) (m : Nat) (c : Int) (r : Nat) (σ : ZSto), L - i + 1 ≤ w → r ≤ i → i ≤ L → Fr (rdW t) σ0 σ → RdC σ t ko i st stk bh k T m c → PI st stk bh k T m c i → gI σ 41 10 ≤ gI σ0 41 10 + 100 * k → res = mnF B L ko w i st stk bh k T m c → L_X5_readText_8 X (d + 6) n (zpI P) (r : Int) σ := by
  have ht2 : t = 1 ∨ t = 15 := ht
  intro w
  induction w with
  | zero => intro i st stk bh k T m c r σ hw; omega
  | succ w ih =>
    intro i st stk bh k T m c r σ hw hr hi hf hR hPI hgc hres
    have hT := hT0.kept hf (fun i => by unfold rdW brdW; omega) (by unfold rdW brdW; omega)
    have hL := hT.2.1
    have hk250 := hPI.2.2.1.2.2.1
    obtain ⟨r1, r2, r3, r4, r5, r6, r7, r8, r9, r10, r11⟩ := hR
    have hs := skp_ge (B := B) (L := L) i
    have hs2 := hs.2 hi
    refine b_X5_readText_8 hn ⟨fun z => by omega, fun _ => ⟨fun z => absurd r5 z, fun _ => (sp_skip hn L i σ hT (by omega) (by omega) r3).mono ?_⟩⟩
    rintro σ1 ⟨f1, e6'⟩
    have e6 : gI σ1 49 6 = (skp B L i : Nat) := e6'
    have F1 : Fr (rdW t) σ0 σ1 := hf.tr (f1.mono (fun a j y => by unfold rdW; omega))
    have hT1 := hT0.kept F1 (fun i => by unfold rdW brdW; omega) (by unfold rdW brdW; omega)
    have e7 : gI σ1 49 7 = (st : Int) := by rw [f1.I (by omega)]; exact r4
    have R1 : RdC σ1 t ko (skp B L i) st stk bh k T m c := ⟨by rw [f1.P (by omega)]; exact r1, by rw [f1.I (by omega)]; exact r2, e6, e7, by rw [f1.I (by omega)]; exact r5, by rw [f1.I (by omega)]; exact r6, by rw [f1.I (by omega)]; exact r7, by rw [f1.I (by omega)]; exact r8, r9.kept f1 (fun i _ => by omega), r10.kept f1 (fun a i y => by unfold ctrD at y; omega), r11.kept2 f1 (fun a i y => by unfold brdX at y; omega)⟩
    have g1 : gI σ1 41 10 ≤ gI σ0 41 10 + 100 * k := by rw [f1.I (by omega)]; exact hgc
    clear r1 r2 r3 r4 r5 r6 r7 r8 r9 r10 r11
    have hPq : PI st stk bh k T m c (skp B L i) := by
      obtain ⟨a1, a2, a3, a4, a5⟩ := hPI
      exact ⟨a1, a2, a3, Nat.le_trans a4 hs.1, a5⟩
    rw [e6]
    refine (sp_byte hn hT1 (skp B L i) (by omega)).mono ?_
    rintro b _ - ⟨rfl, hb⟩
    have hq15 : skp B L i ≤ 1500 := by omega
    have hr15 : r ≤ 1500 := by omega
    have kk : ∀ (q' st' : Nat) (stk' : List Int) (bh' : Int) (k' : Nat) (T' : ATr) (m' : Nat) (c' : Int) (σ' : ZSto), Fr (rdW t) σ0 σ' → RdC σ' t ko q' st' stk' bh' k' T' m' c' → PI st' stk' bh' k' T' m' c' q' → gI σ' 41 10 ≤ gI σ0 41 10 + 100 * k' → skp B L i < q' → q' ≤ L → res = mnF B L ko w q' st' stk' bh' k' T' m' c' → L_X5_readText_8 X (d + 6) n (zpI P) ((r + 1 : Nat) : Int) σ' := fun q' st' stk' bh' k' T' m' c' σ' k1 k2 k3 k4 k5 k6 k7 => ih q' st' stk' bh' k' T' m' c' (r + 1) σ' (by omega) (by omega) k6 k1 k2 k3 k4 k7
    have rest : ¬ (skp B L i < L ∧ B (skp B L i) = 59 ∧ (st = 1 ∨ st = 2)) → L_X5_readText_69 X (d + 6) n (zpI P) (r : Int) b σ1 := fun hno => tx_rest hn ht hT1 F1 R1 hPq hb rfl hq15 hr15 (by omega) hres hno hP (fun st' stk' bh' σ' k1 k2 k3 k4 k5 k6 => kk _ st' stk' bh' k T m c σ' k1 k2 k3 (by rw [k4]; exact g1) (Nat.lt_succ_self _) k5 k6)
    have node : skp B L i < L ∧ B (skp B L i) = 59 ∧ (st = 1 ∨ st = 2) → ZkV X M_X5_readNode (d + 6) n [.ref (zB X + 49)] σ1 (fun σ27 => R32 ((r : Int) + 1) ∧ L_X5_readText_8 X (d + 6) n (zpI P) ((r : Int) + 1) σ27) := fun hc => tx_node hn ht hT1 hko F1 R1 hPq rfl hq15 hr15 hg g1 hres hc hP (fun s σ' k1 k2 k3 k4 k5 k6 k7 => kk s.1 2 stk (k : Int) (k + 1) s.2.2 (nSz s.2.1) (nKm s.2.1) σ' k1 k2 k3 k4 k5 k6 k7)
    refine ⟨fun y => rest (fun u => by_n hb y ⟨u.1, u.2.1⟩), fun y => ?_⟩
    rw [e7]
    exact ⟨fun y2 => node ⟨(by_y hb (by decide) y).1, (by_y hb (by decide) y).2, Or.inl (by exact_mod_cast y2)⟩, fun y2 => ⟨fun y3 => rest (fun u => u.2.2.elim (fun v => y2 (by rw [v]; rfl)) (fun v => y3 (by rw [v]; rfl))), fun y3 => node ⟨(by_y hb (by decide) y).1, (by_y hb (by decide) y).2, Or.inr (by exact_mod_cast y3)⟩⟩⟩
end ZC
