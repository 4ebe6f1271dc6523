def runW (l a i : Nat) : Prop := brdW 41 a ∨ (a = 61 ∧ (i = 8 ∨ i = 9)) ∨ (a = 62 ∧ 3 * (l + 1) ≤ i) ∨ ((a = 63 ∨ a = 64) ∧ l + 1 ≤ i) ∨ ((a = 65 ∨ a = 66) ∧ l ≤ i)
/-- where the class stands at a level -/
def LdS (σ : ZSto) (m tg : Nat) (c : Int) (l : Nat) (bd : Nat → Int) (pv : Option (Nat → Int)) (f : Nat) (G : Int) : Prop :=
  gI σ 61 6 = (tg : Int) ∧ gI σ 61 7 = c ∧ gI σ 61 8 = (l : Int) ∧ gI σ 61 9 = 600 - (f : Int) ∧ (∃ b, BOk σ 41 m b) ∧ gI σ 41 10 ≤ G ∧ LdW σ m l bd ∧ PvR σ m l pv ∧ (∀ q, q < 81 → (MvB σ l q ↔ mvS m tg c (huB l) bd q)) ∧ (-1 ≤ gI σ 66 l ∧ gI σ 66 l ≤ (m * m : Nat)) ∧ (-1 ≤ gI σ 65 l ∧ gI σ 65 l < (m * m : Nat))
section ZD
variable {X : ZX} {d n : Nat}
def WorkG (X : ZX) (d n : Nat) (P : Int → ZSto → Prop) (l : Nat) (σ : ZSto) (r : Nat) : Prop := (l = 0 → L_X3_readOut_37 X d n (zpI P) 1 ((r : Int) + 1) σ) ∧ ∀ j : Nat, l = j + 1 → L_X3_readOut_37 X d n (zpI P) 3 ((r : Int) + 1) (sI σ 61 8 (j : Int))
def BeatG (X : ZX) (d n : Nat) (P : Int → ZSto → Prop) (l : Nat) (σ : ZSto) (r : Nat) : Prop := (l = 0 → L_X3_readOut_37 X d n (zpI P) 0 ((r : Int) + 1) σ) ∧ ∀ j : Nat, l = j + 1 → WorkG X d n P j (sI σ 61 8 (j : Int)) r
def LdK (X : ZX) (d n : Nat) (P : Int → ZSto → Prop) (m : Nat) (σ : ZSto) (l f : Nat) (G : Int) (B : Nat) (res : Int × Nat) : Prop :=
  ∀ (σ' : ZSto) (r : Nat), Fr (runW l) σ σ' → gI σ' 61 9 = 600 - (res.2 : Int) → (∃ b, BOk σ' 41 m b) → gI σ' 41 10 ≤ G + 90 * ((f : Int) - res.2) → r + 2 * res.2 + l ≤ B →
    (res.1 = -1 → BeatG X d n P l σ' r) ∧ (0 ≤ res.1 → (gI σ 65 l = -1 → gI σ' 66 l = res.1) → WorkG X d n P l σ' r) ∧ (res.1 = -2 → L_X3_readOut_37 X d n (zpI P) 2 ((r : Int) + 1) σ')
theorem LdS.next {σ σ' : ZSto} {m tg : Nat} {c : Int} {l : Nat} {bd : Nat → Int} {pv : Option (Nat → Int)} {f f' : Nat} {G G' : Int} (h : LdS σ m tg c l bd pv f G) (hf : Fr (fun a i => brdW 41 a ∨ (a = 61 ∧ (i = 8 ∨ i = 9)) ∨ (a = 62 ∧ 3 * (l + 1) ≤ i) ∨ ((a = 63 ∨ a = 64) ∧ l + 1 ≤ i) ∨ ((a = 65 ∨ a = 66) ∧ l + 1 ≤ i)) σ σ') (h8 : gI σ' 61 8 = (l : Int)) (h9 : gI σ' 61 9 = 600 - (f' : Int)) (hB : ∃ b, BOk σ' 41 m b) (hg : gI σ' 41 10 ≤ G') : LdS σ' m tg c l bd pv f' G' ∧ ldL σ' l (m * m) = ldL σ l (m * m) := by
  obtain ⟨a1, a2, a3, a4, a5, a6, a7, a8, a9, a10, a11⟩ := h
  have e65 : gI σ' 65 l = gI σ 65 l := hf.I (by unfold brdW; omega)
  have e66 : gI σ' 66 l = gI σ 66 l := hf.I (by unfold brdW; omega)
  have em : ∀ q, MvB σ' l q ↔ MvB σ l q := fun q => MvB.congr (hf.L (by unfold brdW; omega)) (hf.L (by unfold brdW; omega))
  refine ⟨⟨by rw [hf.I (by unfold brdW; omega)]; exact a1, by rw [hf.I (by unfold brdW; omega)]; exact a2, h8, h9, hB, hg, fun w hw => by rw [hf.L (by unfold brdW; omega)]; exact a7 w hw, ?_, fun q hq => by rw [em q]; exact a9 q hq, by rw [e66]; exact a10, by rw [e65]; exact a11⟩, ?_⟩
  · rcases a8 with u | ⟨j, pb, u1, u2, u3, u4⟩
    · exact Or.inl u
    · exact Or.inr ⟨j, pb, u1, u2, u3, fun w hw => by rw [hf.L (by unfold brdW; omega)]; exact u4 w hw⟩
  · unfold ldL
    rw [e65, e66, show MvB σ' l = MvB σ l from funext (fun q => propext (em q))]
theorem LdS.step {σ σ' : ZSto} {m tg : Nat} {c : Int} {l : Nat} {bd : Nat → Int} {pv : Option (Nat → Int)} {f f' : Nat} {G G' : Int} (h : LdS σ m tg c l bd pv f G) (hf : Fr (fun a i => brdW 41 a ∨ (a = 61 ∧ i = 9) ∨ ((a = 65 ∨ a = 66) ∧ i = l)) σ σ') (h9 : gI σ' 61 9 = 600 - (f' : Int)) (hB : ∃ b, BOk σ' 41 m b) (hg : gI σ' 41 10 ≤ G') (h66 : -1 ≤ gI σ' 66 l ∧ gI σ' 66 l ≤ (m * m : Nat)) (h65 : -1 ≤ gI σ' 65 l ∧ gI σ' 65 l < (m * m : Nat)) : LdS σ' m tg c l bd pv f' G' := by
  obtain ⟨a1, a2, a3, a4, a5, a6, a7, a8, a9, a10, a11⟩ := h
  have em : ∀ q, MvB σ' l q ↔ MvB σ l q := fun q => MvB.congr (hf.L (by unfold brdW; omega)) (hf.L (by unfold brdW; omega))
  refine ⟨by rw [hf.I (by unfold brdW; omega)]; exact a1, by rw [hf.I (by unfold brdW; omega)]; exact a2, by rw [hf.I (by unfold brdW; omega)]; exact a3, h9, hB, hg, fun w hw => by rw [hf.L (by unfold brdW; omega)]; exact a7 w hw, ?_, fun q hq => by rw [em q]; exact a9 q hq, h66, h65⟩
  rcases a8 with u | ⟨j, pb, u1, u2, u3, u4⟩
  · exact Or.inl u
  · exact Or.inr ⟨j, pb, u1, u2, u3, fun w hw => by rw [hf.L (by unfold brdW; omega)]; exact u4 w hw⟩
theorem goL_0 {A : Nat → Int} {F : Nat → Nat → Int × Nat} {p : Nat} {ps : List Nat} {f : Nat} (h : A p = 0) : goL A F (p :: ps) (f + 1) = goL A F ps f := by
  show (if _ then _ else _) = _
  rw [if_pos h]
theorem goL_1 {A : Nat → Int} {F : Nat → Nat → Int × Nat} {p : Nat} {ps : List Nat} {f : Nat} (h : A p = 1) : goL A F (p :: ps) (f + 1) = ((p : Int), f) := by
  show (if _ then _ else _) = _
  rw [if_neg (by omega), if_pos h]
theorem goL_2 {A : Nat → Int} {F : Nat → Nat → Int × Nat} {p : Nat} {ps : List Nat} {f : Nat} (h : A p = 2) : goL A F (p :: ps) (f + 1) = if (F p f).1 = -2 then (-2, (F p f).2) else if (F p f).1 = -1 then ((p : Int), (F p f).2) else goL A F ps (F p f).2 := by
  show (if _ then _ else _) = _
  rw [if_neg (by omega), if_neg (by omega)]
theorem cl_leave (hn : 73 ≤ n) {P : Int → ZSto → Prop} {l r e : Nat} {σ : ZSto} (hl : l ≤ 600) (h8 : gI σ 61 8 = (l : Int)) (hW : WorkG X e n P l σ r) (hr : r ≤ 2000) : ZkI X M_X3_leaveWinning (d + 1) n [.ref (zB X + 61)] σ (fun v σ' => R32 ((r : Int) + 1) ∧ L_X3_readOut_37 X e n (zpI P) v ((r : Int) + 1) σ') := by
  refine w_X3_leaveWinning hn ?_
  rw [h8]
  refine ⟨fun z => ⟨⟨by omega, by omega⟩, ⟨by omega, by omega⟩, ?_⟩, fun z => ⟨⟨by omega, by omega⟩, hW.1 (by omega)⟩⟩
  have := hW.2 (l - 1) (by omega)
  rw [show ((l - 1 : Nat) : Int) = (l : Int) - 1 by omega] at this
  exact this
theorem cl_run (hn : 73 ≤ n) {m tg : Nat} {c : Int} {P : Int → ZSto → Prop} {B : Nat} (hm9 : m ≤ 9) (hc : c = 1 ∨ c = 2) (htm : tg < m * m) (hBd : B ≤ 1200) :
    ∀ (f : Nat) (g l : Nat) (bd : Nat → Int) (pv : Option (Nat → Int)) (σ : ZSto) (r : Nat) (G : Int), f ≤ g → l + f ≤ 600 → BCon m bd → bd tg = c → G + 90 * f < 1999980000 → LdS σ m tg c l bd pv f G → r + 2 * f + l ≤ B →
      LdK X (d + 5) n P m σ l f G B (goL (attA m tg c (huB l) bd pv) (fun p f' => lev m tg c g (!(huB l)) (putB m bd p (mcl c (huB l))) (some bd) f') (ldL σ l (m * m)) f) →
      L_X3_readOut_37 X (d + 5) n (zpI P) 3 (r : Int) σ := by
  have hN := sq_le hm9
  intro f
  induction f using Nat.strongRecOn with
  | _ f ih =>
  intro g l bd pv σ r G hfg hlf hbd hbt hG hS hr hK
  have hS' := hS
  obtain ⟨a1, a2, a3, a4, a5, a6, a7, a8, a9, a10, a11⟩ := hS'
  obtain ⟨b41, hb41⟩ := id a5
  have rr : R32 ((r : Int) + 1) := ⟨by omega, by omega⟩
  refine b_X3_readOut_37 hn ⟨fun q => by omega, fun _ => ⟨fun q => absurd rfl q, fun _ => w_X3_goOn hn ?_⟩⟩
  refine (sp_nextMove hn a3 (by omega) hb41.1.2.2.2.1 hN a10 a11).mono ?_
  rintro v σ1 - ⟨f1, t1, l1, hv⟩
  have f1r : Fr (runW l) σ σ1 := f1.mono (fun a i q => by unfold runW; omega)
  have B1 : ∃ b, BOk σ1 41 m b := ⟨b41, hb41.kept f1 (fun a i q => by unfold brdW at q; omega)⟩
  have h81 : gI σ1 61 8 = (l : Int) := by rw [f1.I (by omega)]; exact a3
  have h91 : gI σ1 61 9 = 600 - (f : Int) := by rw [f1.I (by omega)]; exact a4
  have g1 : gI σ1 41 10 ≤ G := by rw [f1.I (by omega)]; exact a6
  rcases hv with ⟨rfl, hnil⟩ | ⟨p, rfl, hpN, hcons, hla⟩
  · -- no move left
    refine ⟨fun q => absurd rfl q, fun _ => w_X3_leaveBeaten hn ?_⟩
    rw [hnil] at hK
    have k := (hK σ1 r f1r h91 B1 (show gI σ1 41 10 ≤ G + 90 * ((f : Int) - (f : Int)) by omega) hr).1 rfl
    rw [h81]
    refine ⟨fun z => ⟨⟨by omega, by omega⟩, ?_⟩, fun z => ⟨rr, k.1 (by omega)⟩⟩
    have kw := k.2 (l - 1) (by omega)
    rw [show (l : Int) - 1 = ((l - 1 : Nat) : Int) by omega]
    exact cl_leave hn (show l - 1 ≤ 600 by omega) (gI_same _ _ _ _) kw (by omega)
  · refine ⟨fun _ => ⟨fun q => ?_, fun q => ?_⟩, fun q => by omega⟩
    · rw [h91] at q
      obtain ⟨f2, rfl⟩ : ∃ f2, f = f2 + 1 := ⟨f - 1, by omega⟩
      rw [h91, show (600 : Int) - ((f2 + 1 : Nat) : Int) + 1 = 600 - (f2 : Int) by omega]
      refine ⟨⟨by omega, by omega⟩, ?_⟩
      rw [hcons] at hK
      have f2r : Fr (fun a i => brdW 41 a ∨ (a = 61 ∧ i = 9) ∨ ((a = 65 ∨ a = 66) ∧ i = l)) σ (sI σ1 61 9 (600 - (f2 : Int))) := (f1.mono (fun a i q => by omega)).sI (by omega)
      have fs : Fr (fun a i => a = 61) σ1 (sI σ1 61 9 (600 - (f2 : Int))) := Fr.rf.sI rfl
      have e69 : gI (sI σ1 61 9 (600 - (f2 : Int))) 61 9 = 600 - (f2 : Int) := gI_same _ _ _ _
      have e41 : gI (sI σ1 61 9 (600 - (f2 : Int))) 41 10 ≤ G := by rw [gI_f (by omega)]; exact g1
      have e66 : gI (sI σ1 61 9 (600 - (f2 : Int))) 66 l = gI σ1 66 l := fs.I (by omega)
      have e65 : gI (sI σ1 61 9 (600 - (f2 : Int))) 65 l = gI σ1 65 l := fs.I (by omega)
      have eL : ldL (sI σ1 61 9 (600 - (f2 : Int))) l (m * m) = ldL σ1 l (m * m) := by
        unfold ldL; rw [e65, e66]; rfl
      have B2 : ∃ b, BOk (sI σ1 61 9 (600 - (f2 : Int))) 41 m b := by
        obtain ⟨b, hb⟩ := B1
        exact ⟨b, hb.kept fs (fun a i q => by unfold brdW at q; omega)⟩
      generalize sI σ1 61 9 (600 - (f2 : Int)) = σ2 at f2r e69 e41 e66 e65 eL B2
      have S2 : LdS σ2 m tg c l bd pv f2 G := hS.step f2r e69 B2 e41 (by rw [e66]; exact t1) (by rw [e65]; exact l1)
      obtain ⟨c1, c2, c3, c4, c5, c6, c7, c8, c9, c10, c11⟩ := id S2
      refine (sp_attempt hn (l := l) (by omega) c1 c2 c3 hc htm hpN B2 hbd c7 c8 (by omega)).mono ?_
      rintro v2 σ3 - ⟨f3, hA, B3, hO, g3⟩
      have f3r : Fr (fun a i => brdW 41 a ∨ (a = 61 ∧ i = 9) ∨ ((a = 65 ∨ a = 66) ∧ i = l)) σ σ3 := f2r.tr (f3.mono (fun a i q => Or.inl q))
      have f3R : Fr (runW l) σ σ3 := f3r.mono (fun a i q => by unfold brdW at q; unfold runW brdW; omega)
      have e693 : gI σ3 61 9 = 600 - (f2 : Int) := by rw [f3.I (by unfold brdW; omega)]; exact e69
      have e663 : gI σ3 66 l = gI σ1 66 l := by rw [f3.I (by unfold brdW; omega)]; exact e66
      have e653 : gI σ3 65 l = gI σ1 65 l := by rw [f3.I (by unfold brdW; omega)]; exact e65
      have eL3 : ldL σ3 l (m * m) = ldL σ1 l (m * m) := by
        rw [← eL]; unfold ldL
        rw [e653, e663, e65, e66, show MvB σ3 l = MvB σ2 l from funext (fun q => propext (MvB.congr (f3.L (by unfold brdW; omega)) (f3.L (by unfold brdW; omega))))]
      have S3 : LdS σ3 m tg c l bd pv f2 (G + 90) := hS.step f3r e693 B3 (by omega) (by rw [e663]; exact t1) (by rw [e653]; exact l1)
      clear hS
      rcases attA_r (m := m) (tg := tg) (c := c) (hu := huB l) (bd := bd) (pv := pv) (p := p) with hA0 | hA1 | hA2
      · -- fails
        rw [hA0] at hA
        subst hA
        rw [goL_0 hA0] at hK
        refine ⟨fun _ => ⟨fun _ => ⟨rr, ?_⟩, fun q => by omega⟩, fun q => by omega⟩
        have := ih f2 (by omega) g l bd pv σ3 (r + 1) (G + 90) (by omega) (by omega) hbd hbt (by omega) S3 (by omega) (fun σ' r' k1 k2 k3 k4 k5 => ?_)
        · simpa using this
        · rw [eL3] at k2 k4 k5 ⊢
          have kk := hK σ' r' (f3R.tr k1) k2 k3 (by omega) k5
          exact ⟨kk.1, fun y1 y2 => kk.2.1 y1 (fun y3 => y2 (by rw [e653]; exact (hla y3).2)), kk.2.2⟩
      · -- wins
        rw [hA1] at hA
        subst hA
        rw [goL_1 hA1] at hK
        refine ⟨fun _ => ⟨fun q => by omega, fun _ => ?_⟩, fun q => by omega⟩
        have kk := hK σ3 r f3R e693 B3 (show gI σ3 41 10 ≤ G + 90 * (((f2 + 1 : Nat) : Int) - (f2 : Int)) by omega) (by show r + 2 * f2 + l ≤ B; omega)
        exact cl_leave hn (show l ≤ 600 by omega) (by rw [f3.I (by unfold brdW; omega)]; exact c3) (kk.2.1 (by show (0 : Int) ≤ (p : Int); omega) (fun y => by rw [e663]; exact (hla y).1)) (by omega)
      · -- opens
        rw [hA2] at hA
        subst hA
        rw [goL_2 hA2] at hK
        obtain ⟨B3', hbt'⟩ := hO rfl
        refine ⟨fun q => absurd rfl q, fun _ => ?_⟩
        obtain ⟨s1, s2, s3, s4, s5, s6, s7, s8, s9, s10, s11⟩ := id S3
        rw [s3, show (l : Int) + 1 = ((l + 1 : Nat) : Int) by omega]
        refine (sp_enterLevel hn (l := l + 1) (by omega) s1 s2 hc B3' hbt' htm (by omega)).mono ?_
        rintro σ4 ⟨f4, B4, h84, g4, w4, b4, l4, t4⟩
        refine ⟨rr, ?_⟩
        obtain ⟨g', rfl⟩ : ∃ g', g = g' + 1 := ⟨g - 1, by omega⟩
        have eM : ldL σ4 (l + 1) (m * m) = mvs m tg c (!(huB l)) (putB m bd p (mcl c (huB l))) := by
          unfold ldL mvs
          rw [t4, l4, huB_s]
          have z0 : ((-1 : Int) + 1).toNat = 0 := by omega
          rw [z0]
          refine mvF_congr _ _ (fun q _ hq => ?_)
          have := b4 q (by omega)
          rw [huB_s] at this
          exact this
        have la4 : -1 ≤ gI σ4 65 (l + 1) ∧ gI σ4 65 (l + 1) < (m * m : Nat) := by
          rw [l4]
          unfold mvL
          split
          · exact ⟨by omega, by omega⟩
          · unfold lastM
            rcases lstF_spec (P := fun q => cnt (Lib m (putB m bd p (mcl c (huB l))) tg) (m * m) = 1 ∧ Lib m (putB m bd p (mcl c (huB l))) tg q ∧ ¬ Rsc m (putB m bd p (mcl c (huB l))) c tg q) (m * m) 0 with ⟨u, _⟩ | ⟨q, u, _, u2, _⟩
            · rw [u]; omega
            · rw [u]; omega
        have S4 : LdS σ4 m tg c (l + 1) (putB m bd p (mcl c (huB l))) (some bd) f2 (G + 90) := by
          refine ⟨by rw [f4.I (by unfold entW brdW; omega)]; exact s1, by rw [f4.I (by unfold entW brdW; omega)]; exact s2, h84, by rw [f4.I (by unfold entW brdW; omega)]; exact s4, ⟨_, B4⟩, by omega, w4, Or.inr ⟨l, bd, rfl, rfl, hbd, fun w hw => by rw [f4.L (by unfold entW brdW; omega)]; exact s7 w hw⟩, b4, by rw [t4]; omega, la4⟩
        have := ih f2 (by omega) g' (l + 1) (putB m bd p (mcl c (huB l))) (some bd) σ4 (r + 1) (G + 90) (by omega) (by omega) B4.2.1 hbt' (by omega) S4 (by omega) ?_
        · simpa using this
        · rw [eM, huB_s]
          have eR : goL (attA m tg c (!(huB l)) (putB m bd p (mcl c (huB l))) (some bd)) (fun p' f' => lev m tg c g' (!(!(huB l))) (putB m (putB m bd p (mcl c (huB l))) p' (mcl c (!(huB l)))) (some (putB m bd p (mcl c (huB l)))) f') (mvs m tg c (!(huB l)) (putB m bd p (mcl c (huB l)))) f2 = lev m tg c (g' + 1) (!(huB l)) (putB m bd p (mcl c (huB l))) (some bd) f2 := rfl
          rw [eR]
          have hle := lev_le (m := m) (tg := tg) (c := c) (g' + 1) (!(huB l)) (putB m bd p (mcl c (huB l))) (some bd) f2
          generalize lev m tg c (g' + 1) (!(huB l)) (putB m bd p (mcl c (huB l))) (some bd) f2 = res at hK hle
          obtain ⟨r1, r2⟩ := res
          simp only at hK hle
          intro σ5 r5 k1 k2 k3 k4 k5
          simp only at k2 k4 k5 ⊢
          have f34 : Fr (fun a i => brdW 41 a ∨ (a = 61 ∧ (i = 8 ∨ i = 9)) ∨ (a = 62 ∧ 3 * (l + 1) ≤ i) ∨ ((a = 63 ∨ a = 64) ∧ l + 1 ≤ i) ∨ ((a = 65 ∨ a = 66) ∧ l + 1 ≤ i)) σ3 σ5 := (f4.mono (fun a i q => by unfold entW brdW at q; unfold brdW; omega)).tr (k1.mono (fun a i q => by unfold runW brdW at q; unfold brdW; omega))
          have F5 : Fr (runW l) σ σ5 := f3R.tr (f34.mono (fun a i q => by unfold brdW at q; unfold runW brdW; omega))
          refine ⟨fun z => ⟨fun u => by omega, fun j ej => ?_⟩, fun z _ => ⟨fun u => by omega, fun j ej => ?_⟩, fun z => ?_⟩
          · -- the opponent is beaten: p does
            have : j = l := by omega
            subst this
            rw [if_neg (by omega), if_pos z] at hK
            have kk := hK (sI σ5 61 8 (j : Int)) r5 (F5.sI (Or.inr (Or.inl ⟨rfl, Or.inl rfl⟩))) (by rw [gI_f (by omega)]; exact k2) (by
              obtain ⟨b, hb⟩ := k3
              exact ⟨b, hb.kept (W := fun a i => a = 61) (Fr.rf.sI rfl) (fun a i q => by unfold brdW at q; omega)⟩) (by rw [gI_c (by omega)]; show gI σ5 41 10 ≤ G + 90 * (((f2 + 1 : Nat) : Int) - (r2 : Int)); omega) (by show r5 + 2 * r2 + j ≤ B; omega)
            refine kk.2.1 (by show (0 : Int) ≤ (p : Int); omega) (fun y => ?_)
            rw [gI_c (by omega), f34.I (by unfold brdW; omega), e663]
            exact (hla y).1
          · -- the opponent's move does: on with the next
            have : j = l := by omega
            subst this
            rw [if_neg (by omega), if_neg (by omega)] at hK
            have f35 : Fr (fun a i => brdW 41 a ∨ (a = 61 ∧ (i = 8 ∨ i = 9)) ∨ (a = 62 ∧ 3 * (j + 1) ≤ i) ∨ ((a = 63 ∨ a = 64) ∧ j + 1 ≤ i) ∨ ((a = 65 ∨ a = 66) ∧ j + 1 ≤ i)) σ3 (sI σ5 61 8 (j : Int)) := f34.sI (Or.inr (Or.inl ⟨rfl, Or.inl rfl⟩))
            have F6 : Fr (runW j) σ (sI σ5 61 8 (j : Int)) := F5.sI (Or.inr (Or.inl ⟨rfl, Or.inl rfl⟩))
            obtain ⟨S5, eL5⟩ := S3.next (f' := r2) (G' := G + 90 + 90 * ((f2 : Int) - r2)) f35 (gI_same _ _ _ _) (by rw [gI_f (by omega)]; exact k2) (by
              obtain ⟨b, hb⟩ := k3
              exact ⟨b, hb.kept (W := fun a i => a = 61) (Fr.rf.sI rfl) (fun a i q => by unfold brdW at q; omega)⟩) (by rw [gI_c (by omega)]; exact k4)
            have e65' : gI (sI σ5 61 8 (j : Int)) 65 j = gI σ3 65 j := f35.I (by unfold brdW; omega)
            have := ih r2 (by omega) (g' + 1) j bd pv (sI σ5 61 8 (j : Int)) (r5 + 1) (G + 90 + 90 * ((f2 : Int) - r2)) (by omega) (by omega) hbd hbt (by omega) S5 (by omega) (fun σ' r' q1 q2 q3 q4 q5 => ?_)
            · simpa using this
            · rw [eL5, eL3] at q2 q4 q5 ⊢
              have kk := hK σ' r' (F6.tr q1) q2 q3 (by omega) q5
              exact ⟨kk.1, fun y1 y2 => kk.2.1 y1 (fun y3 => y2 (by rw [e65', e653]; exact (hla y3).2)), kk.2.2⟩
          · rw [if_pos z] at hK
            exact (hK σ5 r5 F5 k2 k3 (by show gI σ5 41 10 ≤ G + 90 * (((f2 + 1 : Nat) : Int) - (r2 : Int)); omega) (by show r5 + 2 * r2 + l ≤ B; omega)).2.2 rfl
    · -- the steps are used up
      rw [h91] at q
      have : f = 0 := by omega
      subst this
      rw [hcons] at hK
      exact ⟨rr, (hK σ1 r f1r h91 B1 (show gI σ1 41 10 ≤ G + 90 * (((0 : Nat) : Int) - ((0 : Nat) : Int)) by omega) hr).2.2 rfl⟩
end ZD
