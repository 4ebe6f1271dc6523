noncomputable def ScV (m : Nat) (bd dd : Nat → Int) (tk c w : Int) : Int :=
  if w = 0 then ((cnt (fun q => clB bd dd q = c) (m * m) : Nat) : Int) + ((cnt (Own m (clB bd dd) c) (m * m) : Nat) : Int)
  else if w = 1 then ((cnt (Own m (clB bd dd) c) (m * m) : Nat) : Int) + tk + ((cnt (fun q => dd q ≠ 0 ∧ bd q = 3 - c) (m * m) : Nat) : Int)
  else if w = 2 then tk else ((cnt (fun q => dd q ≠ 0 ∧ bd q = c) (m * m) : Nat) : Int)
theorem ScV_r {m : Nat} {bd dd : Nat → Int} {tk c w : Int} (h9 : m ≤ 9) (ht : 0 ≤ tk ∧ tk ≤ 81 * 250) : 0 ≤ ScV m bd dd tk c w ∧ ScV m bd dd tk c w ≤ 100000 := by
  have hN := sq_le h9
  have a1 := cnt_le (fun q => clB bd dd q = c) (m * m)
  have a2 := cnt_le (Own m (clB bd dd) c) (m * m)
  have a3 := cnt_le (fun q => dd q ≠ 0 ∧ bd q = 3 - c) (m * m)
  have a4 := cnt_le (fun q => dd q ≠ 0 ∧ bd q = c) (m * m)
  unfold ScV
  split
  · omega
  · split
    · omega
    · split <;> omega
def scW (a i : Nat) : Prop := (41 ≤ a ∧ a ≤ 48) ∨ a = 69 ∨ a = 70
section ZW
variable {X : ZX} {d n : Nat} {σ : ZSto} {G : Int}
theorem sp_scoreOf (hn : 73 ≤ n) {t g m k pl : Nat} {c cc w : Int} {T : ATr} {dd : Nat → Int} (hGm : GmR σ t g m k pl c T) (hB : BdR σ m (tBrd T pl) G) (hG : G ≤ 1950000000) (hdd : ∀ p, p < 81 → gI σ 68 p = dd p) (hcc : cc = 1 ∨ cc = 2) (hw : 0 ≤ w ∧ w ≤ 3) :
    ZkI X M_X9_scoreOf (d + 6) n [.ref (zB X + 0), iV cc, iV w] σ (fun v σ' => v = ScV m (tBrd T pl) dd (SumW T cc 250 (pl : Int)) cc w ∧ (0 ≤ v ∧ v ≤ 100000) ∧ Fr scW σ σ' ∧ BdR σ' m (tBrd T pl) (G + 81)) := by
  obtain ⟨hB1, hB2, g1, g2⟩ := hB
  obtain ⟨ht, hg, p0, p1, e10, e11, e16, hpk, hW, hTS, hc, hC, hM⟩ := hGm
  have hN := sq_le hW.2.1
  have htt : t + 13 ≤ 28 := by unfold zIsT at ht; omega
  refine w_X9_scoreOf hn ⟨by omega, by omega⟩ ⟨by omega, by omega⟩ ((sp_otherColour hn hcc).mono ?_)
  rintro v _ - ⟨rfl, rfl⟩
  refine (sp_survey hn hB1 hB2 (by omega) (dd := dd) (fun p hp => hdd p (by omega))).mono ?_
  rintro σ1 ⟨f1, b1, gb, cs⟩
  have F1 : Fr scW σ σ1 := f1.mono (fun a i q => q)
  have B1 : BdR σ1 m (tBrd T pl) (G + 81) := ⟨hB1.kept f1 (fun a i q => by unfold brdW at q; omega), b1.pre, by rw [f1.I (by omega)]; omega, by omega⟩
  have p01 : gP σ1 0 0 = some t := by rw [f1.P (by omega)]; exact p0
  have hC1 : CTr σ1 t m k c T := hC.kept f1 (fun a i q z => by unfold ctrD at q; omega)
  have e161 : gI σ1 t 16 = (pl : Int) := by rw [f1.I (by omega)]; exact e16
  obtain ⟨cn, hcn, ecn⟩ : ∃ cn : Nat, (cn = 1 ∨ cn = 2) ∧ cc = (cn : Int) := by
    rcases hcc with rfl | rfl
    · exact ⟨1, Or.inl rfl, rfl⟩
    · exact ⟨2, Or.inr rfl, rfl⟩
  have tcn : cc.toNat = cn := by omega
  have tcn3 : (3 - cc).toNat = 3 - cn := by omega
  have e3 : ((3 - cn : Nat) : Int) = 3 - cc := by omega
  have cs1 := cs cn hcn
  have cs2 := cs (3 - cn) (by omega)
  rw [← ecn] at cs1
  rw [e3] at cs2
  have a1 := cnt_le (fun q => clB (tBrd T pl) dd q = cc) (m * m)
  have a2 := cnt_le (Own m (clB (tBrd T pl) dd) cc) (m * m)
  have a3 := cnt_le (fun q => dd q ≠ 0 ∧ tBrd T pl q = 3 - cc) (m * m)
  have a4 := cnt_le (fun q => dd q ≠ 0 ∧ tBrd T pl q = cc) (m * m)
  have land : ∀ d', ZkI X M_X6_landOf (d' + 2) n [.ref (zB X + 67), iV cc] σ1 (fun v σ' => σ1 = σ' ∧ v = (cnt (Own m (clB (tBrd T pl) dd) cc) (m * m) : Nat)) := by
    intro d'
    refine w_X6_landOf hn ⟨by omega, by omega⟩ ((sp_isColour hn ⟨by omega, by omega⟩).mono ?_)
    rintro v _ - ⟨rfl, hv⟩
    rw [if_pos hcc] at hv
    rw [tcn]
    exact ⟨fun q => by omega, fun _ => ⟨by omega, rfl, cs1.1⟩⟩
  have dead : ∀ (d' : Nat) (x : Int), (x = 1 ∨ x = 2) → ZkI X M_X6_deadOf (d' + 2) n [.ref (zB X + 67), iV x] σ1 (fun v σ' => σ1 = σ' ∧ v = gI σ1 70 x.toNat) := by
    intro d' x hx
    refine w_X6_deadOf hn ⟨by omega, by omega⟩ ((sp_isColour hn ⟨by omega, by omega⟩).mono ?_)
    rintro v _ - ⟨rfl, hv⟩
    rw [if_pos hx] at hv
    exact ⟨fun q => by omega, fun _ => ⟨by omega, rfl, rfl⟩⟩
  unfold ScV
  refine ⟨fun q => ?_, fun q => ?_, fun q => ?_, fun q => ?_⟩
  · rw [if_pos q]
    refine w_X6_standingOf hn ⟨by omega, by omega⟩ ((sp_countOf hn (Or.inr rfl) b1.1 b1.2.2.1 ⟨by omega, by omega⟩).mono ?_)
    rintro v _ - ⟨rfl, rfl⟩
    refine (land _).mono ?_
    rintro v _ - ⟨rfl, rfl⟩
    exact ⟨⟨by omega, by omega⟩, rfl, by omega, F1, B1⟩
  · rw [if_neg (by omega), if_pos q]
    refine (land _).mono ?_
    rintro v _ - ⟨rfl, rfl⟩
    refine ⟨t, p01, ht, (sp_takenBy hn ht hC1 hW e161 hpk ⟨by omega, by omega⟩).mono ?_⟩
    rintro v _ - ⟨rfl, rfl, t1, t2⟩
    refine (dead _ (3 - cc) (by omega)).mono ?_
    rintro v _ - ⟨rfl, hv⟩
    rw [tcn3, cs2.2] at hv
    subst hv
    exact ⟨⟨by omega, by omega⟩, rfl, by omega, F1, B1⟩
  · rw [if_neg (by omega), if_neg (by omega), if_pos q]
    refine ⟨t, p01, ht, (sp_takenBy hn ht hC1 hW e161 hpk ⟨by omega, by omega⟩).mono ?_⟩
    rintro v _ - ⟨rfl, rfl, t1, t2⟩
    exact ⟨rfl, by omega, F1, B1⟩
  · rw [if_neg (by omega), if_neg (by omega), if_neg (by omega)]
    refine (dead _ cc hcc).mono ?_
    rintro v _ - ⟨rfl, hv⟩
    rw [tcn, cs1.2] at hv
    subst hv
    exact ⟨rfl, by omega, F1, B1⟩
def msW (a i : Nat) : Prop := (84 ≤ a ∧ a ≤ 87) ∨ a = 99 ∨ a = 100 ∨ (a = 73 ∧ i = 13)
theorem score_loop (hn : 104 ≤ n) {m : Nat} {bd dd ow : Nat → Int} {cc w : Int} {P : Int → ZSto → Prop} (h9 : m ≤ 9) (hm : gI σ 73 13 = (m : Int)) (hw : WAll σ bd) (hd : ∀ p, p < 81 → gI σ 92 p = dd p) (how : ∀ p, gI σ 99 p = ow p) (hcc : cc = 1 ∨ cc = 2)
    (hP : L_X10_score_45 X (d + 1) n (zpI P) cc w ((cnt (fun q => clB bd dd q = cc) (m * m) : Nat) : Int) ((cnt (fun q => clB bd dd q = 0 ∧ ow q = cc) (m * m) : Nat) : Int) ((cnt (fun q => dd q ≠ 0 ∧ bd q = cc) (m * m) : Nat) : Int) ((cnt (fun q => dd q ≠ 0 ∧ bd q = 3 - cc) (m * m) : Nat) : Int) ((m * m : Nat) : Int) σ) :
    L_X10_score_45 X (d + 1) n (zpI P) cc w 0 0 0 0 0 σ := by
  have hN := sq_le h9
  have mm : (m : Int) * (m : Int) = ((m * m : Nat) : Int) := by simp
  have := upto (N := m * m) (Q := fun j τ => L_X10_score_45 X (d + 1) n (zpI P) cc w ((cnt (fun q => clB bd dd q = cc) j : Nat) : Int) ((cnt (fun q => clB bd dd q = 0 ∧ ow q = cc) j : Nat) : Int) ((cnt (fun q => dd q ≠ 0 ∧ bd q = cc) j : Nat) : Int) ((cnt (fun q => dd q ≠ 0 ∧ bd q = 3 - cc) j : Nat) : Int) (j : Int) τ) (I := fun j τ => σ = τ) ?_ ?_ 0 σ (by omega) rfl
  · simpa [cnt] using this
  · rintro _ rfl; exact hP
  · rintro j _ hj rfl ih
    have tj : ((j : Int)).toNat = j := by omega
    have key := ih σ rfl
    have a1 := cnt_le (fun q => clB bd dd q = cc) j
    have a2 := cnt_le (fun q => clB bd dd q = 0 ∧ ow q = cc) j
    have a3 := cnt_le (fun q => dd q ≠ 0 ∧ bd q = cc) j
    have a4 := cnt_le (fun q => dd q ≠ 0 ∧ bd q = 3 - cc) j
    have rj : R32 ((j : Int) + 1) := ⟨by omega, by omega⟩
    have cj : ∀ d', ZkI X M_X10_counts (d' + 1) n [.ref (zB X + 73), iV (j : Int)] σ (fun v σ' => σ = σ' ∧ v = clB bd dd j) := fun d' => sm_counts hn hw hd (by omega)
    -- the last two sums
    have l137 : ∀ y1 y2 y3 s3 : Int, y1 = ((cnt (fun q => clB bd dd q = cc) (j + 1) : Nat) : Int) → y2 = ((cnt (fun q => clB bd dd q = 0 ∧ ow q = cc) (j + 1) : Nat) : Int) → y3 = ((cnt (fun q => dd q ≠ 0 ∧ bd q = cc) j : Nat) : Int) → y3 + s3 = ((cnt (fun q => dd q ≠ 0 ∧ bd q = cc) (j + 1) : Nat) : Int) → L_X10_score_137 X (d + 1) n (zpI P) cc w y1 y2 ((cnt (fun q => dd q ≠ 0 ∧ bd q = 3 - cc) j : Nat) : Int) (j : Int) y3 s3 σ := by
      intro y1 y2 y3 s3 e1 e2 e3 e4
      have a5 := cnt_le (fun q => dd q ≠ 0 ∧ bd q = cc) (j + 1)
      refine b_X10_score_137 hn ?_
      rw [tj, hd j (by omega), hw j (by omega), e1, e2, e4]
      refine ⟨by omega, fun q => ⟨⟨by omega, by omega⟩, ⟨by omega, by omega⟩, rj, ?_⟩, fun q => ⟨⟨by omega, by omega⟩, fun q2 => ⟨⟨by omega, by omega⟩, ⟨by omega, by omega⟩, rj, ?_⟩, fun q2 => ⟨⟨by omega, by omega⟩, ⟨by omega, by omega⟩, rj, ?_⟩⟩⟩
      · rw [cnt_n (P := fun q => dd q ≠ 0 ∧ bd q = 3 - cc) (n := j) (fun z => z.1 q)] at key
        simpa using key
      · rw [cnt_n (P := fun q => dd q ≠ 0 ∧ bd q = 3 - cc) (n := j) (fun z => q2 z.2)] at key
        simpa using key
      · rw [cnt_s (P := fun q => dd q ≠ 0 ∧ bd q = 3 - cc) (n := j) ⟨q, q2⟩] at key
        simpa using key
    have l106 : ∀ y1 y2 s2 : Int, y1 = ((cnt (fun q => clB bd dd q = cc) (j + 1) : Nat) : Int) → y2 = ((cnt (fun q => clB bd dd q = 0 ∧ ow q = cc) j : Nat) : Int) → y2 + s2 = ((cnt (fun q => clB bd dd q = 0 ∧ ow q = cc) (j + 1) : Nat) : Int) → L_X10_score_106 X (d + 1) n (zpI P) cc w y1 ((cnt (fun q => dd q ≠ 0 ∧ bd q = cc) j : Nat) : Int) ((cnt (fun q => dd q ≠ 0 ∧ bd q = 3 - cc) j : Nat) : Int) (j : Int) y2 s2 σ := by
      intro y1 y2 s2 e1 e2 e3
      have a5 := cnt_le (fun q => clB bd dd q = 0 ∧ ow q = cc) (j + 1)
      refine b_X10_score_106 hn ?_
      rw [tj, hd j (by omega), hw j (by omega)]
      refine ⟨by omega, fun q => ⟨⟨by omega, by omega⟩, b_X10_score_136 hn (l137 y1 _ _ 0 e1 e3 rfl ?_)⟩, fun q => ⟨fun q2 => ⟨⟨by omega, by omega⟩, b_X10_score_136 hn (l137 y1 _ _ 0 e1 e3 rfl ?_)⟩, fun q2 => ⟨⟨by omega, by omega⟩, l137 y1 _ _ 1 e1 e3 rfl ?_⟩⟩⟩
      · rw [cnt_n (P := fun q => dd q ≠ 0 ∧ bd q = cc) (n := j) (fun z => z.1 q)]; omega
      · rw [cnt_n (P := fun q => dd q ≠ 0 ∧ bd q = cc) (n := j) (fun z => q2 z.2)]; omega
      · rw [cnt_s (P := fun q => dd q ≠ 0 ∧ bd q = cc) (n := j) ⟨q, q2⟩]; omega
    have l76 : ∀ s1 : Int, ((cnt (fun q => clB bd dd q = cc) j : Nat) : Int) + s1 = ((cnt (fun q => clB bd dd q = cc) (j + 1) : Nat) : Int) → L_X10_score_76 X (d + 1) n (zpI P) cc w ((cnt (fun q => clB bd dd q = 0 ∧ ow q = cc) j : Nat) : Int) ((cnt (fun q => dd q ≠ 0 ∧ bd q = cc) j : Nat) : Int) ((cnt (fun q => dd q ≠ 0 ∧ bd q = 3 - cc) j : Nat) : Int) (j : Int) ((cnt (fun q => clB bd dd q = cc) j : Nat) : Int) s1 σ := by
      intro s1 e1
      have a5 := cnt_le (fun q => clB bd dd q = cc) (j + 1)
      refine b_X10_score_76 hn ((cj _).mono ?_)
      rintro v _ - ⟨rfl, rfl⟩
      rw [tj, how j]
      refine ⟨fun q => ⟨⟨by omega, by omega⟩, b_X10_score_105 hn (l106 _ _ 0 e1 rfl ?_)⟩, fun q => ⟨by omega, fun q2 => ⟨⟨by omega, by omega⟩, b_X10_score_105 hn (l106 _ _ 0 e1 rfl ?_)⟩, fun q2 => ⟨⟨by omega, by omega⟩, l106 _ _ 1 e1 rfl ?_⟩⟩⟩
      · rw [cnt_n (P := fun q => clB bd dd q = 0 ∧ ow q = cc) (n := j) (fun z => q z.1)]; omega
      · rw [cnt_n (P := fun q => clB bd dd q = 0 ∧ ow q = cc) (n := j) (fun z => q2 z.2)]; omega
      · rw [cnt_s (P := fun q => clB bd dd q = 0 ∧ ow q = cc) (n := j) ⟨q, q2⟩]; omega
    refine b_X10_score_45 hn ?_
    rw [hm, mm]
    refine ⟨⟨by omega, by omega⟩, fun q => by omega, fun _ => (cj _).mono ?_⟩
    rintro v _ - ⟨rfl, rfl⟩
    refine ⟨fun q => l76 0 ?_, fun q => l76 1 ?_⟩
    · rw [cnt_n (P := fun q => clB bd dd q = cc) (n := j) q]; omega
    · rw [cnt_s (P := fun q => clB bd dd q = cc) (n := j) q]; omega
theorem sm_score (hn : 104 ≤ n) {g m k pl : Nat} {c cc w : Int} {T : ATr} {dd : Nat → Int} (hg : g < 2) (e10 : gI σ 73 10 = (g : Int)) (e11 : gI σ 73 11 = ((250 * g + pl : Nat) : Int)) (hM : MTr σ g m k c T) (hW : TW m k T) (hpk : pl < k) (hdd : ∀ p, p < 81 → gI σ 92 p = dd p) (hcc : cc = 1 ∨ cc = 2) (hw : 0 ≤ w ∧ w ≤ 3) (htk : 0 ≤ SumW T cc 250 (pl : Int) ∧ SumW T cc 250 (pl : Int) ≤ 81 * 250) :
    ZkI X M_X10_score (d + 3) n [.ref (zB X + 73), iV cc, iV w] σ (fun v σ' => v = ScV m (tBrd T pl) dd (SumW T cc 250 (pl : Int)) cc w ∧ Fr msW σ σ') := by
  have hk2 := hW.2.2.1
  have hN := sq_le hW.2.1
  have mm : (m : Int) * (m : Int) = ((m * m : Nat) : Int) := by simp
  refine w_X10_score hn ⟨by omega, by omega⟩ ⟨by omega, by omega⟩ ⟨fun q => by omega, fun _ => ⟨fun q => by omega, fun _ => ⟨fun q => by omega, fun _ => ⟨fun _ => (sm_shows hn hg e10 e11 hM hW hpk).mono ?_, fun q => by omega⟩⟩⟩⟩
  rintro v σ1 - ⟨-, f1, w1, m1⟩
  refine (sm_owners hn hW.1 hW.2.1 m1 w1 (dd := dd) (fun q hq => by rw [f1.I (by unfold shwW; omega)]; exact hdd q hq) (hW.con hpk)).mono ?_
  rintro σ2 ⟨f2, o2⟩
  have F : Fr msW σ σ2 := (f1.mono (fun a i q => by unfold shwW at q; unfold msW; omega)).tr (f2.mono (fun a i q => by unfold owsW at q; unfold msW; omega))
  have m2 : gI σ2 73 13 = (m : Int) := by rw [f2.I (by unfold owsW; omega)]; exact m1
  have eg : cnt (fun q => clB (tBrd T pl) dd q = 0 ∧ gI σ2 99 q = cc) (m * m) = cnt (Own m (clB (tBrd T pl) dd) cc) (m * m) := cnt_congr (fun q hq => ⟨fun z => (o2 q hq z.1 cc hcc).mp z.2, fun z => ⟨z.1, (o2 q hq z.1 cc hcc).mpr z⟩⟩)
  refine score_loop (bd := tBrd T pl) hn hW.2.1 m2 (fun p hp => by rw [f2.I (by unfold owsW; omega)]; exact w1 p hp) (dd := dd) (fun p hp => by rw [F.I (by unfold msW; omega)]; exact hdd p hp) (ow := fun q => gI σ2 99 q) (fun _ => rfl) hcc ?_
  have a1 := cnt_le (fun q => clB (tBrd T pl) dd q = cc) (m * m)
  have a2 := cnt_le (Own m (clB (tBrd T pl) dd) cc) (m * m)
  have a3 := cnt_le (fun q => dd q ≠ 0 ∧ tBrd T pl q = 3 - cc) (m * m)
  have a4 := cnt_le (fun q => dd q ≠ 0 ∧ tBrd T pl q = cc) (m * m)
  have e112 : gI σ2 73 11 = ((250 * g + pl : Nat) : Int) := by rw [F.I (by unfold msW; omega)]; exact e11
  have hM2 : MTr σ2 g m k c T := hM.kept hk2 F (fun a i q => by unfold mtrD at q; unfold msW; omega)
  refine b_X10_score_45 hn ?_
  rw [m2, mm, eg]
  unfold ScV
  refine ⟨⟨by omega, by omega⟩, fun _ => ⟨fun q0 => ⟨fun q1 => ⟨fun q2 => ⟨?_, F⟩, fun q2 => ?_⟩, fun q1 => ?_⟩, fun q0 => ⟨⟨by omega, by omega⟩, ?_, F⟩⟩, fun q => by omega⟩
  · rw [if_neg q0, if_neg q1, if_neg q2]
  · rw [if_neg q0, if_neg q1, if_pos q2]
    refine (sm_taken hn hg hM2 hW e112 hpk ⟨by omega, by omega⟩).mono ?_
    rintro v _ - ⟨rfl, rfl⟩
    exact ⟨rfl, F⟩
  · rw [if_neg q0, if_pos q1]
    refine (sm_taken hn hg hM2 hW e112 hpk ⟨by omega, by omega⟩).mono ?_
    rintro v _ - ⟨rfl, rfl⟩
    exact ⟨⟨by omega, by omega⟩, rfl, F⟩
  · rw [if_pos q0]
theorem SumW_r {m k : Nat} {T : ATr} {tc : Int} (hW : TW m k T) : ∀ (f : Nat) (x : Int), x < k → 0 ≤ SumW T tc f x ∧ SumW T tc f x ≤ 81 * f := by
  intro f
  induction f with
  | zero => intro x hx; show 0 ≤ (0 : Int) ∧ (0 : Int) ≤ 81 * ((0 : Nat) : Int); omega
  | succ f ih =>
    intro x hx
    show 0 ≤ (if x < 0 then 0 else (if tCol T x.toNat = tc then tTok T x.toNat else 0) + SumW T tc f (tPar T x.toNat)) ∧ (if x < 0 then 0 else (if tCol T x.toNat = tc then tTok T x.toNat else 0) + SumW T tc f (tPar T x.toNat)) ≤ 81 * ((f + 1 : Nat) : Int)
    split
    · omega
    · have hi : x.toNat < k := by omega
      have h1 := (hW.2.2.2 x.toNat hi).2.2.2.2.2.2.2.1
      have h2 := hW.parb hi
      have := ih (tPar T x.toNat) (by omega)
      split <;> omega
theorem op_score (hn : 104 ≤ n) (h : Rel σ G) (hG : G ≤ 1900000000) {x y : Int} (hx : R32 x) (hy : R32 y) : ZkI X M_X9_score (d + 7) n [.ref (zB X + 0), iV x, iV y] σ (fun v σ1 => ZkI X M_X10_score (d + 3) n [.ref (zB X + 73), iV x, iV y] σ1 (fun w σ2 => v = w ∧ Rel σ2 (G + 60000))) := by
  have hR := h
  have hR' : Rel σ (G + 60000) := h.mono (by omega)
  have hn' : 73 ≤ n := by omega
  obtain ⟨h1, h2, h3, t, g, m, k, pl, c, T, hGm, hB⟩ := h
  have hGm' := hGm
  obtain ⟨ht, hg, p0, p1, e10, e11, e16, hpk, hW, hTS, hc, hC, hM⟩ := hGm
  have hk2 := hW.2.2.1
  have bad : ¬ ((x = 1 ∨ x = 2) ∧ 0 ≤ y ∧ y ≤ 3) → ZkI X M_X10_score (d + 3) n [.ref (zB X + 73), iV x, iV y] σ (fun w σ2 => (-1 : Int) = w ∧ Rel σ2 (G + 60000)) := fun hb => w_X10_score hn hx hy ⟨fun _ => ⟨rfl, hR'⟩, fun _ => ⟨fun _ => ⟨rfl, hR'⟩, fun _ => ⟨fun _ => ⟨rfl, hR'⟩, fun _ => ⟨fun q => by omega, fun _ => ⟨rfl, hR'⟩⟩⟩⟩⟩
  refine w_X9_score hn' hx hy ((sp_isColour hn' hx).mono ?_)
  rintro v _ - ⟨rfl, hv⟩
  refine ⟨fun q => bad (fun z => by rw [if_pos z.1] at hv; omega), fun q => ⟨fun q2 => bad (by omega), fun q2 => ⟨fun q3 => ?_, fun q3 => bad (by omega)⟩⟩⟩
  have hcc : x = 1 ∨ x = 2 := Classical.byContradiction (fun z => by rw [if_neg z] at hv; omega)
  refine (sp_scoreOf hn' hGm' hB (by omega) (dd := fun p => gI σ 68 p) (fun _ _ => rfl) hcc (by omega)).mono ?_
  rintro v σ1 - ⟨rfl, hr, f1, b1⟩
  refine (sm_score hn hg (by rw [f1.I (by unfold scW; omega)]; exact e10) (by rw [f1.I (by unfold scW; omega)]; exact e11) (hM.kept hk2 f1 (fun a i q => by unfold mtrD at q; unfold scW; omega)) hW hpk (dd := fun p => gI σ 68 p) (fun p hp => by rw [f1.I (by unfold scW; omega)]; exact (h3 p hp).2) hcc (by omega) (by have := SumW_r (tc := x) hW 250 (pl : Int) (by omega); omega)).mono ?_
  rintro w σ2 - ⟨rfl, f2⟩
  refine ⟨rfl, hR.qry ((f1.mono (W' := qW) (fun a i q => by unfold scW at q; unfold qW gatW brdW; omega)).tr (f2.mono (W' := qW) (fun a i q => by unfold msW at q; unfold qW; omega))) (fun m bd hb => (hb.kept f1 (fun a i q => by unfold brdW at q; unfold scW; omega)).kept f2 (fun a i q => by unfold brdW at q; unfold msW; omega)) (b1.2.1.kept2 f2 (fun a i q => by unfold brdX at q; unfold msW; omega)) ?_ ?_⟩
  · rw [f2.I (by unfold msW; omega)]; have := b1.2.2.1; omega
  · rw [f2.I (by unfold msW; omega)]; have := b1.2.2.2; omega
theorem op_ahead (hn : 104 ≤ n) (h : Rel σ G) (hG : G ≤ 1900000000) {x : Int} (hx : R32 x) : ZkI X M_X9_ahead (d + 7) n [.ref (zB X + 0), iV x] σ (fun v σ1 => ZkI X M_X10_ahead (d + 4) n [.ref (zB X + 73), iV x] σ1 (fun w σ2 => v = w ∧ Rel σ2 (G + 60000))) := by
  have hR := h
  have hR' : Rel σ (G + 60000) := h.mono (by omega)
  have hn' : 73 ≤ n := by omega
  obtain ⟨h1, h2, h3, t, g, m, k, pl, c, T, hGm, hB⟩ := h
  have hGm' := hGm
  obtain ⟨ht, hg, p0, p1, e10, e11, e16, hpk, hW, hTS, hc, hC, hM⟩ := hGm
  have hk2 := hW.2.2.1
  have tg : ((g : Int)).toNat = g := by omega
  have htt : t + 13 ≤ 28 := by unfold zIsT at ht; omega
  have ht1 : 1 ≤ t := by unfold zIsT at ht; omega
  have key : (x = 0 ∨ x = 1) → ZkI X M_X9_scoreOf (d + 6) n [.ref (zB X + 0), iV 1, iV x] σ (fun v4 σ5 => ZkI X M_X9_scoreOf (d + 6) n [.ref (zB X + 0), iV 2, iV x] σ5 (fun v9 σ10 => (∃ t14, gP σ10 0 0 = some t14 ∧ zIsT t14 ∧ R32 ((2 * (v4 - v9)) - (gI σ10 t14 14)) ∧ ZkI X M_X10_ahead (d + 4) n [.ref (zB X + 73), iV x] σ10 (fun w σ2 => (2 * (v4 - v9)) - (gI σ10 t14 14) = w ∧ Rel σ2 (G + 60000))))) := by
    intro hx01
    refine (sp_scoreOf hn' hGm' hB (by omega) (dd := fun p => gI σ 68 p) (fun _ _ => rfl) (Or.inl rfl) (by omega)).mono ?_
    rintro v σ1 - ⟨ev, hr, f1, b1⟩
    have hGm1 := hGm'.kept f1 (fun a i q => by unfold gmD ctrD mtrD at q; unfold scW; omega)
    refine (sp_scoreOf hn' hGm1 b1 (by omega) (dd := fun p => gI σ 68 p) (fun p _ => f1.I (by unfold scW; omega)) (Or.inr rfl) (by omega)).mono ?_
    rintro v2 σ2 - ⟨ev2, hr2, f2, b2⟩
    have f12 := f1.tr f2
    have c2 : gI σ2 t 14 = c := by rw [f12.I (by unfold scW; omega)]; exact hC.2.1
    refine ⟨t, by rw [f12.P (by unfold scW; omega)]; exact p0, ht, by rw [c2]; exact ⟨by omega, by omega⟩, ?_⟩
    rw [c2]
    -- the reference
    have ref1 : ∀ (τ : ZSto) (cc : Int), Fr (fun a i => scW a i ∨ msW a i) σ τ → (cc = 1 ∨ cc = 2) → ZkI X M_X10_score (d + 3) n [.ref (zB X + 73), iV cc, iV x] τ (fun v σ' => v = ScV m (tBrd T pl) (fun p => gI σ 68 p) (SumW T cc 250 (pl : Int)) cc x ∧ Fr msW τ σ') := by
      intro τ cc hf hcc
      refine sm_score hn hg (by rw [hf.I (by unfold scW msW; omega)]; exact e10) (by rw [hf.I (by unfold scW msW; omega)]; exact e11) (hM.kept hk2 hf (fun a i q => by unfold mtrD at q; unfold scW msW; omega)) hW hpk (dd := fun p => gI σ 68 p) (fun p hp => by rw [hf.I (by unfold scW msW; omega)]; exact (h3 p hp).2) hcc (by omega) (by have := SumW_r (tc := cc) hW 250 (pl : Int) (by omega); omega)
    have ref : ZkI X M_X10_score (d + 3) n [.ref (zB X + 73), iV 1, iV x] σ2 (fun v4 σ5 => ZkI X M_X10_score (d + 3) n [.ref (zB X + 73), iV 2, iV x] σ5 (fun v9 σ10 => (0 ≤ gI σ10 73 10 ∧ gI σ10 73 10 < 2) ∧ R32 ((2 * (v4 - v9)) - (gI σ10 83 ((gI σ10 73 10).toNat))) ∧ ((2 * (v - v2)) - c = (2 * (v4 - v9)) - (gI σ10 83 ((gI σ10 73 10).toNat)) ∧ Rel σ10 (G + 60000)))) := by
      refine (ref1 σ2 1 (f12.mono (fun a i q => Or.inl q)) (Or.inl rfl)).mono ?_
      rintro w1 σ3 - ⟨ew1, f3⟩
      refine (ref1 σ3 2 ((f12.mono (fun a i q => Or.inl q)).tr (f3.mono (fun a i q => Or.inr q))) (Or.inr rfl)).mono ?_
      rintro w2 σ4 - ⟨ew2, f4⟩
      have f34 := f3.tr f4
      have e104 : gI σ4 73 10 = (g : Int) := by rw [f34.I (by unfold msW; omega), f12.I (by unfold scW; omega)]; exact e10
      have e83 : gI σ4 83 g = c := by rw [f34.I (by unfold msW; omega), f12.I (by unfold scW; omega)]; exact hM.2.1
      rw [e104, tg, e83]
      have hv1 : v = w1 := by rw [ev, ew1]
      have hv2 : v2 = w2 := by rw [ev2, ew2]
      refine ⟨by omega, ⟨by omega, by omega⟩, by rw [hv1, hv2], hR.qry ((f12.mono (W' := qW) (fun a i q => by unfold scW at q; unfold qW gatW brdW; omega)).tr (f34.mono (W' := qW) (fun a i q => by unfold msW at q; unfold qW; omega))) (fun m bd hb => (hb.kept f12 (fun a i q => by unfold brdW at q; unfold scW; omega)).kept f34 (fun a i q => by unfold brdW at q; unfold msW; omega)) (b2.2.1.kept2 f34 (fun a i q => by unfold brdX at q; unfold msW; omega)) ?_ ?_⟩
      · rw [f34.I (by unfold msW; omega)]; have := b2.2.2.1; omega
      · rw [f34.I (by unfold msW; omega)]; have := b2.2.2.2; omega
    exact w_X10_ahead hn hx ⟨fun _ => ref, fun q => ⟨fun q2 => by omega, fun _ => ref⟩⟩
  refine w_X9_ahead hn' hx ⟨fun q => key (Or.inl q), fun q => ⟨fun q2 => key (Or.inr q2), fun q2 => w_X10_ahead hn hx ⟨fun z => absurd z q, fun _ => ⟨fun _ => ⟨rfl, hR'⟩, fun z => absurd z q2⟩⟩⟩⟩
end ZW
