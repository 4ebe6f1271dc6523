/-- the text's result, in the reference -/
def TmR (σ : ZSto) (g : Nat) (v : Int) : (Int × Nat) ⊕ (Nat × ATr × Nat × Int) → Prop
  | .inl f => v = 0 ∧ gI σ 73 21 = f.1 ∧ gI σ 73 22 = (f.2 : Int) ∧ ¬ f.1 = 0
  | .inr r => v = 1 ∧ NoM σ ∧ MTr σ g r.2.2.1 r.1 r.2.2.2 r.2.1
def tmW (g a j : Nat) : Prop := mtrD g a j ∨ (84 ≤ a ∧ a ≤ 87) ∨ a = 89 ∨ (a = 73 ∧ (j = 13 ∨ j = 18 ∨ j = 21 ∨ j = 22 ∨ j = 24 ∨ j = 26 ∨ j = 27 ∨ j = 29))
def TmP (g : Nat) (σ0 : ZSto) (res : (Int × Nat) ⊕ (Nat × ATr × Nat × Int)) (v : Int) (σ' : ZSto) : Prop := Fr (tmW g) σ0 σ' ∧ TmR σ' g v res
theorem anW_tm {g k a j : Nat} (hk : k < 250) (h : anW g k a j) : tmW g a j := by
  unfold anW at h; unfold tmW mtrD; omega
theorem sy_y {B : Nat → Int} {L q : Nat} {b v : Int} (hb : (q < L ∧ b = B q) ∨ (L ≤ q ∧ b = 256)) (hv : v < 256) (y : b = v) : q < L ∧ B q = v := by omega
theorem sy_n {B : Nat → Int} {L q : Nat} {b v : Int} (hb : (q < L ∧ b = B q) ∨ (L ≤ q ∧ b = 256)) (y : ¬ b = v) : ¬ (q < L ∧ B q = v) := by omega
section ZQ
variable {X : ZX} {d n : Nat} {B : Nat → Int} {L : Nat}
theorem tm_fault (hn : 104 ≤ n) {g z : Nat} {e : Int} {σ0 σ : ZSto} {res : (Int × Nat) ⊕ (Nat × ATr × Nat × Int)} (F : Fr (tmW g) σ0 σ) (hNo : NoM σ) (he : R32 e) (he0 : ¬ e = 0) (hz : z ≤ 1500) (hr : res = .inl (e, z)) : ZkZ X M_X10_fault (d + 1) n [.ref (zB X + 73), iV e, iV (z : Int)] σ (TmP g σ0 res) := by
  refine (sm_fault hn hNo he ⟨by omega, by omega⟩).mono ?_
  rintro v σ' - ⟨rfl, f2, q1, q2⟩
  refine ⟨F.tr (f2.mono (fun a j y => by unfold tmW; omega)), ?_⟩
  rw [hr]
  exact ⟨rfl, q1, q2, he0⟩
/-- behind the last tree -/
theorem tm_end (hn : 104 ≤ n) {g q w : Nat} {ko bh c : Int} {k m : Nat} {T : ATr} {σ0 σ : ZSto} {res : (Int × Nat) ⊕ (Nat × ATr × Nat × Int)} (hT : TpM σ B L) (F : Fr (tmW g) σ0 σ) (hNo : NoM σ) (hM : MTr σ g m k c T) (h24 : gI σ 73 24 = (q : Int)) (hq : q ≤ L) (hr : res = mnF B L ko (w + 1) q 4 [] bh k T m c) (hk : k ≤ 250) :
    ZkV X M_X10_blanks (d + 2) n [.ref (zB X + 73)] σ (fun σ33 => (gI σ33 73 24 = gI σ33 73 20 → TmP g σ0 res 1 σ33) ∧ (¬ (gI σ33 73 24 = gI σ33 73 20) → ZkZ X M_X10_fault (d + 2) n [.ref (zB X + 73), iV 1, iV (gI σ33 73 24)] σ33 (fun v41 σ42 => (v41 = 0 → TmP g σ0 res 0 σ42) ∧ (¬ (v41 = 0) → TmP g σ0 res 1 σ42)))) := by
  have hL := hT.2.1
  have hs := skp_ge (B := B) (L := L) q
  have hs2 := hs.2 hq
  obtain ⟨m1, m2, m3, m4⟩ := mnF_rest (B := B) (L := L) (ko := ko) (w := w) (i := q) (st := 4) (stk := []) (bh := bh) (k := k) (T := T) (m := m) (c := c) (by omega)
  refine (sm_blanks hn L q σ hT (by omega) (by omega) h24).mono ?_
  rintro σ1 ⟨f1, e1⟩
  have e1' : gI σ1 73 24 = (skp B L q : Nat) := e1
  have F1 : Fr (tmW g) σ0 σ1 := F.tr (f1.mono (fun a j y => by unfold tmW; omega))
  have e20 : gI σ1 73 20 = (L : Int) := by rw [f1.I (by omega)]; exact hT.1
  have No1 := hNo.kept f1 (by omega) (by omega)
  rw [e20, e1']
  refine ⟨fun y => ⟨F1, ?_⟩, fun y => ?_⟩
  · rw [hr, m3 ⟨by omega, rfl⟩]
    exact ⟨rfl, No1, hM.kept hk f1 (fun a j y => by unfold mtrD at y; omega)⟩
  · refine (tm_fault (res := res) (e := 1) (z := skp B L q) hn F1 No1 ⟨by omega, by omega⟩ (by omega) (by omega) (by rw [hr]; exact m4 (by omega) (by omega) (by omega))).mono ?_
    rintro v σ' hv h
    refine ⟨fun y2 => by rw [y2] at h; exact h, fun y2 => ?_⟩
    have : v = 1 := by omega
    rw [this] at h; exact h
theorem tm_rest (hn : 104 ≤ n) {g q i w st k m : Nat} {ko bh c x1 b : Int} {T : ATr} {stk : List Int} {σ0 σ1 : ZSto} {res : (Int × Nat) ⊕ (Nat × ATr × Nat × Int)} (hg : g < 2) (hT1 : TpM σ1 B L) (F1 : Fr (tmW g) σ0 σ1) (R1 : RdM σ1 g ko q stk bh k T m c) (hPq : PI st stk bh k T m c q) (hb : (q < L ∧ b = B q) ∨ (L ≤ q ∧ b = 256)) (hq : skp B L i = q) (hqL : q ≤ L) (hw : 1 ≤ w ∨ L ≤ q) (hst : (st = 0 ∧ x1 = 0 ∧ b = 40) ∨ (st = 1 ∧ x1 = 0) ∨ (st = 2 ∧ x1 = 1) ∨ (st = 3 ∧ x1 = 1)) (hno : ¬ (q < L ∧ B q = 59 ∧ (st = 1 ∨ st = 2))) (hres : res = mnF B L ko (w + 1) i st stk bh k T m c)
    (K : ∀ (st' : Nat) (stk' : List Int) (bh' y1 y2 : Int) (σ' : ZSto), Fr (tmW g) σ0 σ' → RdM σ' g ko (q + 1) stk' bh' k T m c → PI st' stk' bh' k T m c (q + 1) → q < L → ((st' = 1 ∧ y1 = 0 ∧ y2 = 0) ∨ (st' = 3 ∧ y1 = 1 ∧ y2 = 1)) → res = mnF B L ko w (q + 1) st' stk' bh' k T m c → L_X10_trees_27 X (d + 7) n (zpZ (TmP g σ0 res)) y1 y2 σ') :
    (¬ b = 40 → L_X10_trees_117 X (d + 7) n (zpZ (TmP g σ0 res)) x1 b σ1) ∧ (b = 40 → (gI σ1 73 26 = 0 → L_X10_trees_53 X (d + 7) n (zpZ (TmP g σ0 res)) σ1) ∧ (¬ gI σ1 73 26 = 0 → (x1 = 0 → L_X10_trees_117 X (d + 7) n (zpZ (TmP g σ0 res)) x1 b σ1) ∧ (¬ x1 = 0 → L_X10_trees_53 X (d + 7) n (zpZ (TmP g σ0 res)) σ1))) := by
  obtain ⟨m1, m2, m3, m4⟩ := mnF_rest (B := B) (L := L) (ko := ko) (w := w) (i := i) (st := st) (stk := stk) (bh := bh) (k := k) (T := T) (m := m) (c := c) (by rw [hq]; exact hno)
  rw [hq] at m1 m2 m3 m4
  have hL := hT1.2.1
  obtain ⟨x28, x12, x24, xNo, x26, x27, xSt, xM, x13⟩ := id R1
  have hk250 := hPq.2.2.1.2.2.1
  have st4 : ¬ st = 4 := by omega
  -- a tree begins
  have opn : st ≠ 1 → b = 40 → L_X10_trees_53 X (d + 7) n (zpZ (TmP g σ0 res)) σ1 := by
    intro h1 h40
    have hc : q < L ∧ B q = 40 ∧ ¬ st = 1 ∧ ¬ st = 4 := ⟨(sy_y hb (by decide) h40).1, (sy_y hb (by decide) h40).2, h1, st4⟩
    have hlen : stk.length ≤ k := by
      obtain ⟨a1, a2, a3, a4, a5, a6, a7, a8, a9, a10, a11⟩ := hPq
      by_cases z0 : st = 0
      · rw [(a7 z0).1]; simp
      · exact (a9 (by omega)).2
    have fs : Fr (fun a j => (a = 73 ∧ (j = 24 ∨ j = 26)) ∨ (a = 89 ∧ j = stk.length)) σ1 (sI (sI (sI σ1 89 stk.length (mX g bh)) 73 26 ((stk.length : Int) + 1)) 73 24 ((q : Int) + 1)) := ((Fr.rf.sI (by omega)).sI (by omega)).sI (by omega)
    have kk := K 1 (bh :: stk) bh 0 0 _ (F1.tr (fs.mono (fun a j y => by unfold tmW; omega))) ⟨by rw [fs.I (by omega)]; exact x28, by rw [fs.I (by omega)]; exact x12, by rw [gI_same]; omega, xNo.kept fs (by omega) (by omega), by rw [gI_f (by omega), gI_same]; simp, by rw [fs.I (by omega)]; exact x27, ⟨by rw [gI_c (by omega), gI_c (by omega), gI_same], xSt.kept fs (fun i hi => by omega)⟩, xM.kept hk250 fs (fun a j y => by unfold mtrD at y; omega), by rw [fs.I (by omega)]; exact x13⟩ (hPq.opn hc.2.2.1 hc.2.2.2 (Nat.le_succ q)) hc.1 (Or.inl ⟨rfl, rfl, rfl⟩) (by rw [hres]; exact m1 hc)
    refine b_X10_trees_53 hn ?_
    rw [x26, x27, x24, show ((stk.length : Int)).toNat = stk.length by omega]
    exact ⟨by omega, ⟨by omega, by omega⟩, ⟨by omega, by omega⟩, fun _ => kk, fun y => by omega⟩
  -- a tree ends, or a fault
  have cls : ¬ (q < L ∧ B q = 40 ∧ ¬ st = 1 ∧ ¬ st = 4) → L_X10_trees_117 X (d + 7) n (zpZ (TmP g σ0 res)) x1 b σ1 := by
    intro n1
    have flt : ¬ (q < L ∧ B q = 41 ∧ (st = 2 ∨ st = 3)) → ZkZ X M_X10_fault (d + 7) n [.ref (zB X + 73), iV 1, iV (gI σ1 73 24)] σ1 (fun v4 σ5 => TmP g σ0 res v4 σ5) := by
      intro n2
      rw [x24]
      exact tm_fault (e := 1) (z := q) hn F1 xNo ⟨by omega, by omega⟩ (by omega) (by omega) (by rw [hres]; exact m4 n1 n2 (fun u => st4 u.2))
    refine b_X10_trees_117 hn ⟨fun y => flt (fun u => sy_n hb y ⟨u.1, u.2.1⟩), fun y => ⟨fun y2 => flt (fun u => by omega), fun y2 => ?_⟩⟩
    have hc : q < L ∧ B q = 41 ∧ (st = 2 ∨ st = 3) := ⟨(sy_y hb (by decide) y).1, (sy_y hb (by decide) y).2, by omega⟩
    obtain ⟨hne, hlen⟩ := hPq.2.2.2.2.2.2.2.2.1 hc.2.2
    rcases hstk : stk with _ | ⟨z, zs⟩
    · exact absurd hstk hne
    have hres' := m2 z zs hc hstk
    rw [hstk] at hPq x26 xSt hlen
    simp only [List.length_cons] at hlen x26
    have P2 := hPq.close hc.2.2 (Nat.le_succ q)
    have fs : Fr (fun a j => a = 73 ∧ (j = 24 ∨ j = 26 ∨ j = 27)) σ1 (sI (sI (sI σ1 73 26 (zs.length : Int)) 73 27 (mX g z)) 73 24 ((q : Int) + 1)) := ((Fr.rf.sI (by omega)).sI (by omega)).sI (by omega)
    have F2 : Fr (tmW g) σ0 (sI (sI (sI σ1 73 26 (zs.length : Int)) 73 27 (mX g z)) 73 24 ((q : Int) + 1)) := F1.tr (fs.mono (fun a j y => by unfold tmW; omega))
    have M2 := xM.kept hk250 fs (fun a j y => by unfold mtrD at y; omega)
    have No2 := xNo.kept fs (by omega) (by omega)
    have e24 : gI (sI (sI (sI σ1 73 26 (zs.length : Int)) 73 27 (mX g z)) 73 24 ((q : Int) + 1)) 73 24 = ((q + 1 : Nat) : Int) := by rw [gI_same]; omega
    rw [x26, x24, show ((zs.length + 1 : Nat) : Int) - 1 = (zs.length : Int) by omega, show ((zs.length : Int)).toNat = zs.length by omega, xSt.1]
    have hx1 : x1 = 1 := by omega
    refine ⟨⟨by omega, by omega⟩, by omega, ⟨by omega, by omega⟩, fun y3 => ?_, fun y3 => ?_⟩
    · have hzs : ¬ zs = [] := fun u => by rw [u] at y3; exact absurd y3 (by simp)
      rw [if_neg hzs] at P2 hres'
      rw [hx1]
      exact K 3 zs z 1 1 _ F2 ⟨by rw [fs.I (by omega)]; exact x28, by rw [fs.I (by omega)]; exact x12, e24, No2, by rw [gI_f (by omega), gI_f (by omega), gI_same], by rw [gI_f (by omega), gI_same], xSt.2.kept fs (fun i hi => by omega), M2, by rw [fs.I (by omega)]; exact x13⟩ P2 hc.1 (Or.inr ⟨rfl, rfl, rfl⟩) (by rw [hres, hres'])
    · have hzs : zs = [] := List.eq_nil_of_length_eq_zero (by omega)
      rw [if_pos hzs, hzs] at hres'
      obtain ⟨w', rfl⟩ : ∃ w', w = w' + 1 := ⟨w - 1, by omega⟩
      exact tm_end (X := X) (d := d + 5) hn (hT1.kept fs (fun i => by omega) (by omega)) F2 No2 M2 e24 (by omega) (by rw [hres, hres']) hk250
  refine ⟨fun y => cls (fun u => sy_n hb y ⟨u.1, u.2.1⟩), fun y => ⟨fun y2 => opn ?_ y, fun y2 => ⟨fun y3 => cls (fun u => ?_), fun y3 => opn (by omega) y⟩⟩⟩
  · intro u
    have := (hPq.2.2.2.2.2.2.2.1 u).1
    rw [x26] at y2
    exact this (List.eq_nil_of_length_eq_zero (by omega))
  · have : st = 0 := by omega
    have hn := (hPq.2.2.2.2.2.2.1 this).1
    rw [x26, hn] at y2
    exact y2 rfl
theorem tm_loop (hn : 104 ≤ n) {g : Nat} {ko : Int} {σ0 : ZSto} (hg : g < 2) (hT0 : TpM σ0 B L) {res : (Int × Nat) ⊕ (Nat × ATr × Nat × Int)} : ∀ (w i st : Nat) (stk : List Int) (bh : Int) (k : Nat) (T : ATr) (m : Nat) (c x1 x2 : Int) (σ : ZSto), L - i + 1 ≤ w → i ≤ L → Fr (tmW g) σ0 σ → RdM σ g ko i stk bh k T m c → PI st stk bh k T m c i → ((st = 0 ∧ x1 = 0 ∧ x2 = 0 ∧ skp B L i < L ∧ B (skp B L i) = 40) ∨ (st = 1 ∧ x1 = 0 ∧ x2 = 0) ∨ (st = 2 ∧ x1 = 1 ∧ x2 = 0) ∨ (st = 3 ∧ x1 = 1 ∧ x2 = 1)) → res = mnF B L ko w i st stk bh k T m c → L_X10_trees_27 X (d + 7) n (zpZ (TmP g σ0 res)) x1 x2 σ := by
  intro w
  induction w with
  | zero => intro i st stk bh k T m c x1 x2 σ hw; omega
  | succ w ih =>
    intro i st stk bh k T m c x1 x2 σ hw hi hf hR hPI hx hres
    have hT := hT0.kept hf (fun i => by unfold tmW mtrD; omega) (by unfold tmW mtrD; omega)
    have hL := hT.2.1
    have hk250 := hPI.2.2.1.2.2.1
    obtain ⟨r1, r2, r3, r4, r5, r6, r7, r8, r9⟩ := hR
    have hs := skp_ge (B := B) (L := L) i
    have hs2 := hs.2 hi
    refine b_X10_trees_27 hn ((sm_blanks hn L i σ hT (by omega) (by omega) r3).mono ?_)
    rintro σ1 ⟨f1, e24'⟩
    have e24 : gI σ1 73 24 = (skp B L i : Nat) := e24'
    have F1 : Fr (tmW g) σ0 σ1 := hf.tr (f1.mono (fun a j y => by unfold tmW; omega))
    have hT1 := hT0.kept F1 (fun i => by unfold tmW mtrD; omega) (by unfold tmW mtrD; omega)
    have R1 : RdM σ1 g ko (skp B L i) stk bh k T m c := ⟨by rw [f1.I (by omega)]; exact r1, by rw [f1.I (by omega)]; exact r2, e24, r4.kept f1 (by omega) (by omega), by rw [f1.I (by omega)]; exact r5, by rw [f1.I (by omega)]; exact r6, r7.kept f1 (fun i _ => by omega), r8.kept hk250 f1 (fun a j y => by unfold mtrD at y; omega), by rw [f1.I (by omega)]; exact r9⟩
    clear r1 r2 r3 r4 r5 r6 r7 r8 r9
    have hPq : PI st stk bh k T m c (skp B L i) := by
      obtain ⟨a1, a2, a3, a4, a5⟩ := hPI
      exact ⟨a1, a2, a3, Nat.le_trans a4 hs.1, a5⟩
    refine (sm_see hn hT1 e24).mono ?_
    rintro b _ - ⟨rfl, hb⟩
    have kk : ∀ (q' st' : Nat) (stk' : List Int) (bh' : Int) (k' : Nat) (T' : ATr) (m' : Nat) (c' y1 y2 : Int) (σ' : ZSto), Fr (tmW g) σ0 σ' → RdM σ' g ko q' stk' bh' k' T' m' c' → PI st' stk' bh' k' T' m' c' q' → skp B L i < q' → q' ≤ L → ((st' = 1 ∧ y1 = 0 ∧ y2 = 0) ∨ (st' = 2 ∧ y1 = 1 ∧ y2 = 0) ∨ (st' = 3 ∧ y1 = 1 ∧ y2 = 1)) → res = mnF B L ko w q' st' stk' bh' k' T' m' c' → L_X10_trees_27 X (d + 7) n (zpZ (TmP g σ0 res)) y1 y2 σ' := fun q' st' stk' bh' k' T' m' c' y1 y2 σ' k1 k2 k3 k4 k5 k6 k7 => ih q' st' stk' bh' k' T' m' c' y1 y2 σ' (by omega) k5 k1 k2 k3 (Or.inr k6) k7
    have hst1 : (st = 0 ∧ x1 = 0 ∧ b = 40) ∨ (st = 1 ∧ x1 = 0) ∨ (st = 2 ∧ x1 = 1) ∨ (st = 3 ∧ x1 = 1) := by
      rcases hx with u | u | u | u
      · refine Or.inl ⟨u.1, u.2.1, ?_⟩
        omega
      · exact Or.inr (Or.inl ⟨u.1, u.2.1⟩)
      · exact Or.inr (Or.inr (Or.inl ⟨u.1, u.2.1⟩))
      · exact Or.inr (Or.inr (Or.inr ⟨u.1, u.2.1⟩))
    have ww : 1 ≤ w ∨ L ≤ skp B L i := by omega
    have rest := fun hno : ¬ (skp B L i < L ∧ B (skp B L i) = 59 ∧ (st = 1 ∨ st = 2)) => tm_rest (X := X) (d := d) hn hg hT1 F1 R1 hPq hb rfl hs2 ww hst1 hno hres (fun st' stk' bh' y1 y2 σ' k1 k2 k3 k4 k5 k6 => kk _ st' stk' bh' k T m c y1 y2 σ' k1 k2 k3 (Nat.lt_succ_self _) k4 (k5.elim Or.inl (fun u => Or.inr (Or.inr u))) k6)
    -- the node branch
    have c93 : ¬ b = 40 ∨ (b = 40 ∧ st = 1) → L_X10_trees_93 X (d + 7) n (zpZ (TmP g σ0 res)) x1 x2 b σ1 := by
      intro h40
      refine b_X10_trees_93 hn ⟨fun y => ?_, fun y => ⟨fun y2 => ?_, fun y2 => ?_⟩⟩
      · have r := rest (fun u => sy_n hb y ⟨u.1, u.2.1⟩)
        by_cases h : b = 40
        · have hst : st = 1 := (h40.resolve_left (fun z => z h)).2
          have hne : ¬ gI σ1 73 26 = 0 := by
            have := (hPq.2.2.2.2.2.2.2.1 hst).1
            rw [R1.2.2.2.2.1]
            exact fun u => this (List.eq_nil_of_length_eq_zero (by omega))
          exact ((r.2 h).2 hne).1 (by omega)
        · exact r.1 h
      · have h3 : st = 3 := by omega
        have r := rest (fun u => by omega)
        exact r.1 (by omega)
      · have hst : st = 1 ∨ st = 2 := by omega
        have hc : skp B L i < L ∧ B (skp B L i) = 59 ∧ (st = 1 ∨ st = 2) := ⟨(sy_y hb (by decide) y).1, (sy_y hb (by decide) y).2, hst⟩
        have hmn := mnF_node (B := B) (L := L) (ko := ko) (w := w) (i := i) (st := st) (stk := stk) (bh := bh) (k := k) (T := T) (m := m) (c := c) hc
        rw [hmn] at hres
        clear rest hst1 hmn hx
        have tg : ((g : Int)).toNat = g := by omega
        obtain ⟨x28, x12, x24, xNo, x26, x27, xSt, xM, x13⟩ := id R1
        have hopen : 0 < stk.length := by
          have hne : stk ≠ [] := by
            rcases hst with u | u
            · exact (hPq.2.2.2.2.2.2.2.1 u).1
            · exact (hPq.2.2.2.2.2.2.2.2.1 (Or.inl u)).1
          exact Nat.pos_of_ne_zero (fun z => hne (List.eq_nil_of_length_eq_zero z))
        by_cases hk : k = 250
        · rw [if_pos hk] at hres
          refine w_X10_aNode hn (fun y1 ey => ?_)
          rw [x28, tg, xM.2.2.1, ey, x24]
          refine ⟨by omega, fun u => absurd (by omega) u, fun _ => (tm_fault (res := res) (e := 6) (z := skp B L i) hn F1 xNo ⟨by omega, by omega⟩ (by omega) (by omega) hres).mono ?_⟩
          rintro v σ' - h
          refine ⟨fun u => ?_, fun u => ?_⟩
          · have hv : v = 0 := by
              have := h.2; rw [hres] at this; exact this.1
            exact absurd hv u
          · rw [u] at h; exact h
        · rw [if_neg hk] at hres
          have hk' : k < 250 := by omega
          refine (sm_aNode hn hg hT1 R1 hPq hst hc.1 hk').mono ?_
          rintro v σ2 - ⟨f2, n2⟩
          have F2 : Fr (tmW g) σ0 σ2 := F1.tr (f2.mono (fun a j y => anW_tm hk' y))
          cases hv : ndR B L ko (skp B L i) bh k T m c with
          | inl f =>
            rw [hv] at n2 hres
            obtain ⟨rfl, n3, n4, n5⟩ := n2
            refine ⟨fun u => absurd rfl u, fun _ => ⟨F2, ?_⟩⟩
            rw [hres]
            exact ⟨rfl, n3, n4, n5⟩
          | inr s =>
            rw [hv] at n2 hres
            obtain ⟨rfl, n3, n4, n5, n6, n7⟩ := n2
            obtain ⟨P2, p3, p4⟩ := ndR_inv hPq (Nat.le_refl _) hst hk' hc.1 hv
            have e26 : gI σ2 73 26 = (stk.length : Int) := by rw [f2.I (by unfold anW; omega)]; exact x26
            refine ⟨fun _ => ⟨fun _ => ?_, fun u => by omega⟩, fun u => by omega⟩
            have hx20 : x2 = 0 := y2
            rw [hx20]
            exact kk s.1 2 stk (k : Int) (k + 1) s.2.2 (nSz s.2.1) (nKm s.2.1) 1 0 σ2 F2 ⟨by rw [f2.I (by unfold anW; omega)]; exact x28, by rw [f2.I (by unfold anW; omega)]; exact x12, n4, n3, e26, by rw [n5, mX_p], xSt.kept f2 (fun i _ => by unfold anW; omega), n7, n6⟩ P2 p3 p4 (Or.inr (Or.inl ⟨rfl, rfl, rfl⟩)) hres
    refine ⟨fun y => c93 (Or.inl y), fun y => ?_⟩
    have r := fun hno => rest hno
    have hno : ¬ (skp B L i < L ∧ B (skp B L i) = 59 ∧ (st = 1 ∨ st = 2)) := fun u => by
      have := (sy_y hb (by decide) y).2
      omega
    have r2 := (rest hno).2 y
    refine ⟨fun y2 => r2.1 y2, fun y2 => ⟨fun y3 => c93 (Or.inr ⟨y, ?_⟩), fun y3 => (r2.2 y2).2 y3⟩⟩
    rcases hst1 with u | u | u | u
    · have := (hPq.2.2.2.2.2.2.1 u.1).1
      rw [R1.2.2.2.2.1, this] at y2
      exact absurd rfl y2
    · exact u.1
    · omega
    · omega
end ZQ
