section ZM
variable {X : ZX} {d n : Nat}
theorem tk_exit (hn : 104 ≤ n) {x1 x3 x4 x5 : Int} {P : Int → ZSto → Prop} {τ : ZSto} (hu : gI τ 73 43 = 1) (hP : P 0 τ) : L_X10_takesChain_59 X d n (zpZ P) x1 x3 x4 x5 τ :=
  b_X10_takesChain_59 hn ⟨fun _ => hP, fun _ => ⟨fun _ => hP, fun q => by omega⟩⟩
/-- one of the hunter's two moves -/
theorem tk_try (hn : 104 ≤ n) {m tg l g e f q q' : Nat} {bd : Nat → Int} {pv : Option (Nat → Int)} {c x3 x4 x5 : Int} {P : Int → ZSto → Prop} {σ0 σ : ZSto} (h3 : 3 ≤ m) (h9 : m ≤ 9) (hc : c = 1 ∨ c = 2) (htm : tg < m * m) (hH : ∀ f', f' < f → IsH X n m tg c f') (hD : 2 * f ≤ e) (hfg : f ≤ g) (hlf : l + f ≤ 600) (hcon : BCon m bd) (hpad : Pad m bd) (ht : bd tg = c) (hS : MLd σ m tg l bd f) (hF : Fr (mlW l) σ0 σ) (hpv : PvM σ0 m l pv) (hq : q < m * m) (hL : Lib m bd tg q) (hL' : Lib m bd tg q') (hqq : q' ≠ q) (h5 : (x5 = 0 ∧ x3 = (q : Int)) ∨ (x5 = 1 ∧ x4 = (q : Int)))
    (hnext : ∀ σ', (tkR m tg c g true bd pv [q] f).1 = -1 → Fr (mlW l) σ0 σ' → MLd σ' m tg l bd (tkR m tg c g true bd pv [q] f).2 → L_X10_takesChain_59 X (e + 7) n (zpZ P) c x3 x4 (x5 + 1) σ')
    (hP : ∀ v σ', TkQ σ0 σ' l bd (tkR m tg c g true bd pv [q] f) v → (tkR m tg c g true bd pv [q] f).1 ≠ -1 → (l = 0 → 0 ≤ (tkR m tg c g true bd pv [q] f).1 → gI σ' 73 42 = (tkR m tg c g true bd pv [q] f).1) → P v σ') :
    ZkZ X M_X10_tries (e + 7) n [.ref (zB X + 73), iV (q : Int), iV (3 - c)] σ (fun v12 σ13 => (¬ v12 = 0 → ZkZ X M_X10_isSaved (e + 7) n [.ref (zB X + 73), iV c] σ13 (fun v20 σ21 => ZkV X M_X10_pops (e + 7) n [.ref (zB X + 73)] σ21 (fun σ26 => (gI σ26 73 43 = 0 → (¬ v20 = 0 → R32 (x5 + 1) ∧ L_X10_takesChain_59 X (e + 7) n (zpZ P) c x3 x4 (x5 + 1) σ26) ∧ (v20 = 0 → (¬ gI σ26 73 39 = 0 → P 1 σ26) ∧ (gI σ26 73 39 = 0 → (¬ x5 = 0 → P 1 (sI σ26 73 42 x4)) ∧ (x5 = 0 → P 1 (sI σ26 73 42 x3))))) ∧ (¬ (gI σ26 73 43 = 0) → P 0 σ26)))) ∧ (v12 = 0 → R32 (x5 + 1) ∧ L_X10_takesChain_59 X (e + 7) n (zpZ P) c x3 x4 (x5 + 1) σ13)) := by
  have hN := sq_le h9
  have r5 : R32 (x5 + 1) := ⟨by omega, by omega⟩
  have emc : mcl c true = 3 - c := rfl
  refine (sm_tries hn h3 h9 (mc := 3 - c) (by omega) hq hcon hpad hS hlf (hpv.kept hF (fun i hi => by unfold mlW; omega))).mono ?_
  rintro v σ1 - ⟨f1, e42, ⟨rfl, rfl, e1⟩ | ⟨f2, rfl, ⟨rfl, S1, L1, hlib, hnb⟩ | ⟨rfl, S1, hno⟩⟩⟩
  · refine ⟨fun z => absurd rfl z, fun _ => ⟨r5, ?_⟩⟩
    obtain ⟨a1, a2, a3, a4, a5, a6⟩ := hS
    have fs : Fr (fun a i => a = 73 ∧ i = 43) σ σ1 := by rw [e1]; exact Fr.rf.sI ⟨rfl, rfl⟩
    have u1 : gI σ1 73 43 = 1 := by rw [e1, gI_same]
    refine tk_exit hn u1 (hP 0 σ1 ⟨hF.tr f1, by rw [fs.I (by omega)]; exact a3, by rw [fs.I (by omega)]; exact a4, a6.kept fs (fun i => by omega), Or.inr (Or.inr ⟨rfl, rfl, u1⟩)⟩ (by rw [tkR_z]; show ¬ (-2 : Int) = -1; omega) (fun _ y => ?_))
    rw [tkR_z] at y
    exact absurd y (by show ¬ (0 : Int) ≤ -2; omega)
  · refine ⟨fun _ => ?_, fun z => by omega⟩
    have hbt : putB m bd q (3 - c) tg = c := by rw [putB_stay (c := 3 - c) hL.1 (by omega) (by omega) hL' hqq]; exact ht
    have hcon' : BCon m (putB m bd q (3 - c)) := offB_con (setB_con hcon (by omega))
    have hpad' := putB_pad (c := 3 - c) hpad hq
    have eA := att_go (m := m) (tg := tg) (c := c) (hu := true) (bd := bd) (pv := pv) (p := q) hlib hnb
    rw [emc, iteP_f (fun y => y hbt), if_pos rfl] at eA
    have F1 := hF.tr f1
    obtain ⟨g', rfl⟩ : ∃ g', g = g' + 1 := ⟨g - 1, by omega⟩
    refine (hH f2 (by omega) (e + 7) g' (l + 1) (putB m bd q (3 - c)) (some bd) σ1 (by omega) (by omega) (by omega) hcon' hpad' hbt S1 (Or.inr ⟨l, bd, rfl, rfl, hpad, L1⟩) (by omega)).mono ?_
    rintro v2 σ2 - hv2
    have back : ∀ (f2' : Fr (mlW (l + 1)) σ1 σ2) (l2 : gI σ2 73 39 = ((l + 1 : Nat) : Int)) (Q : ZSto → Prop), (∀ σ3, Fr (mlW l) σ0 σ3 → gI σ3 73 39 = (l : Int) → gI σ3 73 40 = gI σ2 73 40 → gI σ3 73 43 = gI σ2 73 43 → gI σ3 73 44 = (tg : Int) → gI σ3 73 13 = (m : Int) → WAll σ3 bd → Q σ3) → ZkV X M_X10_pops (e + 7) n [.ref (zB X + 73)] σ2 Q := by
      intro f2' l2 Q hQ
      have L2 : LnR σ2 l bd := fun i hi => by rw [f2'.I (by unfold mlW; omega)]; exact L1 i hi
      have F2 := F1.tr (f2'.mono (fun a i y => mlW_up y))
      refine (sm_pops hn (by omega) l2 L2).mono ?_
      rintro σ3 ⟨f3, l3, w3⟩
      exact hQ σ3 (F2.tr (f3.mono (fun a i y => by unfold mlW; omega))) l3 (f3.I (by omega)) (f3.I (by omega)) (by rw [f3.I (by omega), f2'.I (by unfold mlW; omega)]; exact S1.1) (by rw [f3.I (by omega), f2'.I (by unfold mlW; omega)]; exact S1.2.1) w3
    rcases hv2 with ⟨c2, rfl, f2', S2⟩ | ⟨c2, f2', l2, s2, w2, hv2⟩
    · rw [if_pos c2] at eA
      refine back f2' S2.2.2.1 _ (fun σ3 k1 k2 k3 k4 k5 k6 k7 => ?_)
      rw [S2.2.2.2.2.1] at k4
      refine ⟨fun _ => ⟨fun _ => ⟨r5, hnext σ3 (by rw [tkR_0 eA]) k1 ?_⟩, fun z => by omega⟩, fun z => absurd k4 z⟩
      rw [tkR_0 eA]
      exact ⟨k5, k6, k2, by rw [k3]; exact S2.2.2.2.1, k4, k7⟩
    · rw [if_neg c2] at eA
      have e2 := tkR_2 (g := g' + 1) (f := f2) eA
      rw [emc, show (!true) = false from rfl] at e2
      generalize lev m tg c (g' + 1) false (putB m bd q (3 - c)) (some bd) f2 = res at s2 hv2 e2
      refine back f2' l2 _ (fun σ3 k1 k2 k3 k4 k5 k6 k7 => ?_)
      rw [s2] at k3
      rcases hv2 with ⟨r1, rfl, u2⟩ | ⟨r1, rfl, u2⟩ | ⟨r1, rfl, u2⟩
      · -- not saved
        rw [if_neg (by omega), if_pos r1] at e2
        rw [u2] at k4
        refine ⟨fun _ => ⟨fun z => absurd rfl z, fun _ => ⟨fun z => ?_, fun z => ?_⟩⟩, fun z => absurd k4 z⟩
        · refine hP 1 σ3 ?_ (by rw [e2]; show ¬ (q : Int) = -1; omega) (fun y => by omega)
          rw [e2]
          exact ⟨k1, k2, k3, k7, Or.inr (Or.inl ⟨by show (0 : Int) ≤ (q : Int); omega, rfl, k4⟩)⟩
        · have fin : P 1 (sI σ3 73 42 (q : Int)) := by
            have l0 : l = 0 := by omega
            have fs : Fr (fun a i => a = 73 ∧ i = 42) σ3 (sI σ3 73 42 (q : Int)) := Fr.rf.sI ⟨rfl, rfl⟩
            refine hP 1 _ ?_ (by rw [e2]; show ¬ (q : Int) = -1; omega) (fun _ _ => by rw [e2, gI_same])
            rw [e2]
            exact ⟨k1.tr (fs.mono (fun a i y => by unfold mlW; omega)), by rw [fs.I (by omega)]; exact k2, by rw [fs.I (by omega)]; exact k3, k7.kept fs (fun i => by omega), Or.inr (Or.inl ⟨by show (0 : Int) ≤ (q : Int); omega, rfl, by rw [fs.I (by omega)]; exact k4⟩)⟩
          refine ⟨fun z5 => ?_, fun z5 => ?_⟩
          · rcases h5 with w | w
            · omega
            · rw [w.2]; exact fin
          · rcases h5 with w | w
            · rw [w.2]; exact fin
            · omega
      · rw [if_neg (by omega), if_neg (by omega)] at e2
        rw [u2] at k4
        refine ⟨fun _ => ⟨fun _ => ⟨r5, hnext σ3 (by rw [e2]) k1 ?_⟩, fun z => by omega⟩, fun z => absurd k4 z⟩
        rw [e2]
        exact ⟨k5, k6, k2, k3, k4, k7⟩
      · rw [if_pos r1] at e2
        rw [u2] at k4
        refine ⟨fun z => by omega, fun _ => hP 0 σ3 ?_ (by rw [e2]; show ¬ (-2 : Int) = -1; omega) (fun _ y => ?_)⟩
        · rw [e2]
          exact ⟨k1, k2, k3, k7, Or.inr (Or.inr ⟨rfl, rfl, k4⟩)⟩
        · rw [e2] at y
          exact absurd y (by show ¬ (0 : Int) ≤ -2; omega)
  · refine ⟨fun z => absurd rfl z, fun _ => ⟨r5, ?_⟩⟩
    have e0 := tkR_0 (g := g) (f := f2) (att_no (tg := tg) (hu := true) hno)
    refine hnext σ1 (by rw [e0]) (hF.tr f1) ?_
    rw [e0]; exact S1
theorem tk_all (hn : 104 ≤ n) {m tg : Nat} {c : Int} (h3 : 3 ≤ m) (h9 : m ≤ 9) (hc : c = 1 ∨ c = 2) (htm : tg < m * m) {f : Nat} (hH : ∀ f', f' < f → IsH X n m tg c f') : TkH X n m tg c f := by
  intro D g l bd pv σ hD hfg hlf hcon hpad ht hS hpv hc2
  have hN := sq_le h9
  obtain ⟨e, rfl⟩ : ∃ e, D = e + 7 + 1 := ⟨D - 8, by omega⟩
  have hS' := hS
  obtain ⟨a1, a2, a3, a4, a5, a6⟩ := hS'
  have emc : mcl c true = 3 - c := rfl
  rw [tkR_lev]
  have emv : mvs m tg c true bd = mvF (Lib m bd tg) (-1) (m * m) 0 := rfl
  rw [emv]
  refine w_X10_takesChain hn ⟨by omega, by omega⟩ ?_
  rw [a1]
  refine (sm_flood hn h3 h9 a2 (fun q hq => a6 q (by omega)) htm (by omega) ⟨by omega, by omega⟩).mono ?_
  rintro v σ1 - ⟨hF, ev⟩
  have F1 : Fr (mlW l) σ σ1 := hF.1.mono (fun a i q => by unfold fldW at q; unfold mlW; omega)
  have S1 : MLd σ1 m tg l bd f := ⟨by rw [hF.1.I (by unfold fldW; omega)]; exact a1, by rw [hF.1.I (by unfold fldW; omega)]; exact a2, by rw [hF.1.I (by unfold fldW; omega)]; exact a3, by rw [hF.1.I (by unfold fldW; omega)]; exact a4, by rw [hF.1.I (by unfold fldW; omega)]; exact a5, a6.kept hF.1 (fun i => by unfold fldW; omega)⟩
  refine (sm_freeBehind hn (D := Lib m bd tg) h9 S1.2.1 hF.2.2.2 (fun q hq => (hF.2.1 q hq).2) (x := -1) (by omega)).mono ?_
  rintro w1 _ - ⟨rfl, hw1⟩
  have rw1 : -1 ≤ w1 ∧ w1 < (m * m : Nat) := by
    rcases hw1 with u | ⟨q, u1, _, u2, _⟩
    · omega
    · omega
  refine (sm_freeBehind hn (D := Lib m bd tg) h9 S1.2.1 hF.2.2.2 (fun q hq => (hF.2.1 q hq).2) rw1).mono ?_
  rintro w2 _ - ⟨rfl, hw2⟩
  have nilF : mvF (Lib m bd tg) (-1) 0 0 = [] := rfl
  rcases hw1 with ⟨z1, z2⟩ | ⟨q1, rfl, _, q1N, q1L, q1f⟩
  · -- no liberty
    have e0 : cnt (Lib m bd tg) (m * m) = 0 := cnt_0 (fun i hi => z2 i (by omega) hi)
    rw [mvF_none (m * m) 0 (fun q _ hq => z2 q (by omega) (by omega)), nilF, tkR_nil]
    refine ⟨fun _ => ⟨fun z => by omega, fun _ => ⟨⟨F1, S1.2.2.1, S1.2.2.2.1, S1.2.2.2.2.2, Or.inl ⟨rfl, rfl, S1.2.2.2.2.1⟩⟩, fun y => by omega⟩⟩, fun z => by omega⟩
  rw [mvF_some (la := -1) q1L (m * m) 0 (by omega) (by omega) (fun r _ hr => q1f r (by omega) hr), show 0 + m * m - (q1 + 1) = m * m - (q1 + 1) by omega]
  rcases hw2 with ⟨z1, z2⟩ | ⟨q2, rfl, q12, q2N, q2L, q2f⟩
  · -- one
    have h1 : cnt (Lib m bd tg) (m * m) ≤ 1 := cnt_at1 (a := q1) (fun i hi hL => by
      rcases (show i < q1 ∨ i = q1 ∨ q1 < i by omega) with u | u | u
      · exact absurd hL (q1f i (by omega) u)
      · exact u
      · exact absurd hL (z2 i (by omega) hi))
    have hp := cnt_pos (P := Lib m bd tg) q1N q1L
    rw [mvF_none _ (q1 + 1) (fun q h1 h2 => z2 q (by omega) (by omega)), nilF]
    refine ⟨fun z => by omega, fun _ => (sm_tries hn h3 h9 (mc := 3 - c) (by omega) q1N hcon hpad S1 hlf (hpv.kept F1 (fun i hi => by unfold mlW; omega))).mono ?_⟩
    rintro v3 σ2 - ⟨f2, e42, ⟨rfl, rfl, e1⟩ | ⟨f3, rfl, ⟨rfl, S2, L2, hlib, hnb⟩ | ⟨rfl, S2, hno⟩⟩⟩
    · obtain ⟨b1, b2, b3, b4, b5, b6⟩ := S1
      have fs : Fr (fun a i => a = 73 ∧ i = 43) σ1 σ2 := by rw [e1]; exact Fr.rf.sI ⟨rfl, rfl⟩
      refine ⟨fun _ => ⟨⟨F1.tr f2, by rw [fs.I (by omega)]; exact b3, by rw [fs.I (by omega)]; exact b4, b6.kept fs (fun i => by omega), Or.inr (Or.inr ⟨rfl, rfl, by rw [e1, gI_same]⟩)⟩, fun y => by omega⟩, fun z => absurd rfl z⟩
    · have hk : putB m bd q1 (3 - c) tg = 0 := putB_kill q1L.1 (by omega) (by omega) q1L (fun x hx => by
        have hx' : x < m * m := by obtain ⟨_, a, _, a2⟩ := id hx; exact a2.2.1
        rcases (show x < q1 ∨ x = q1 ∨ q1 < x by omega) with u | u | u
        · exact absurd hx (q1f x (by omega) u)
        · exact u
        · exact absurd hx (z2 x (by omega) hx'))
      have eA := att_go (m := m) (tg := tg) (c := c) (hu := true) (bd := bd) (pv := pv) (p := q1) hlib hnb
      rw [emc, iteP_t (by rw [hk]; omega)] at eA
      rw [tkR_1 eA]
      refine ⟨fun z => by omega, fun _ => (sm_pops hn (by omega) S2.2.2.1 L2).mono ?_⟩
      rintro σ3 ⟨f3', l3, w3⟩
      exact ⟨⟨(F1.tr f2).tr (f3'.mono (fun a i y => by unfold mlW; omega)), l3, by rw [f3'.I (by omega)]; exact S2.2.2.2.1, w3, Or.inr (Or.inl ⟨by show (0 : Int) ≤ (q1 : Int); omega, rfl, by rw [f3'.I (by omega)]; exact S2.2.2.2.2.1⟩)⟩, fun y => by omega⟩
    · rw [tkR_0 (att_no (hu := true) hno)]
      exact ⟨fun _ => ⟨⟨F1.tr f2, S2.2.2.1, S2.2.2.2.1, S2.2.2.2.2.2, Or.inl ⟨rfl, rfl, S2.2.2.2.2.1⟩⟩, fun y => by omega⟩, fun z => absurd rfl z⟩
  -- two
  have h2 := cnt_two (S := Lib m bd tg) (show q1 ≠ q2 by omega) q1N q2N q1L q2L
  rw [mvF_some (la := -1) q2L (m * m - (q1 + 1)) (q1 + 1) (by omega) (by omega) (fun r h1 hr => q2f r (by omega) hr), mvF_none _ (q2 + 1) (fun q h1 h2' y => by
    have := cnt_three (S := Lib m bd tg) (show q1 ≠ q2 by omega) (show q1 ≠ q by omega) (show q2 ≠ q by omega) q1N q2N (show q < m * m by omega) q1L q2L y
    omega), nilF]
  refine ⟨fun _ => ⟨fun _ => ?_, fun z => by omega⟩, fun z => by omega⟩
  have hle := tkR_le (m := m) (tg := tg) (c := c) (g := g) (hu := true) (bd := bd) (pv := pv) (ps := [q1]) (f := f)
  have eC := tkR_cons (m := m) (tg := tg) (c := c) (g := g) (hu := true) (bd := bd) (pv := pv) (p := q1) (ps := [q2]) (f := f)
  refine b_X10_takesChain_59 hn ⟨fun z => by omega, fun _ => ⟨fun z => absurd S1.2.2.2.2.1 z, fun _ => ⟨fun z => absurd rfl z, fun _ => ?_⟩⟩⟩
  refine tk_try hn h3 h9 hc htm hH (show 2 * f ≤ e by omega) hfg hlf hcon hpad ht S1 F1 hpv q1N q1L q2L (by omega) (Or.inl ⟨rfl, rfl⟩) (fun σ2 r1 f2 S2 => ?_) (fun v3 σ2 k1 k2 k3 => ?_)
  · -- the second
    rw [if_pos r1] at eC
    rw [eC]
    refine b_X10_takesChain_59 hn ⟨fun z => by omega, fun _ => ⟨fun z => absurd S2.2.2.2.2.1 z, fun _ => ⟨fun _ => ?_, fun z => by omega⟩⟩⟩
    generalize hf2 : (tkR m tg c g true bd pv [q1] f).2 = f2' at *
    refine tk_try hn h3 h9 hc htm (fun f' h' => hH f' (by omega)) (show 2 * f2' ≤ e by omega) (by omega) (by omega) hcon hpad ht S2 f2 hpv q2N q2L q1L (by omega) (Or.inr ⟨rfl, rfl⟩) (fun σ3 r3 f3 S3 => ?_) (fun v3 σ3 k1 k2 k3 => ⟨k1, fun _ y1 y2 => k3 y1 y2⟩)
    refine b_X10_takesChain_59 hn ⟨fun _ => ⟨⟨f3, S3.2.2.1, S3.2.2.2.1, S3.2.2.2.2.2, Or.inl ⟨r3, rfl, S3.2.2.2.2.1⟩⟩, fun _ _ y => by omega⟩, fun z => by omega⟩
  · rw [if_neg k2] at eC
    rw [eC]
    exact ⟨k1, fun _ y1 y2 => k3 y1 y2⟩
theorem lad_all (hn : 104 ≤ n) {m tg : Nat} {c : Int} (h3 : 3 ≤ m) (h9 : m ≤ 9) (hc : c = 1 ∨ c = 2) (htm : tg < m * m) : ∀ f, TkH X n m tg c f ∧ IsH X n m tg c f := by
  intro f
  induction f using Nat.strongRecOn with
  | _ f ih => exact ⟨tk_all hn h3 h9 hc htm (fun f' h => (ih f' h).2), is_all hn h3 h9 hc htm (fun f' h => (ih f' h).1)⟩
end ZM
