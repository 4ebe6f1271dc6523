theorem vsF_inv {B : Nat → Int} {L k m base : Nat} {c nm t0 : Int} (hN : NmO k nm t0) : ∀ (w q od : Nat) (x : ND) (q' : Nat) (y : ND), NDI k m c x → nTold x = orI t0 nm → (od = 0 → andI t0 124 = 0 → nMvr x = 0 ∧ ∀ p, nSet x p = 3) → TLs (if od = 0 then t0 else nTold x) x → base + 4 * CtS x ≤ q → (0 < od ∨ (0 < w ∧ q < L ∧ B q = 91)) → q ≤ L → vsF B L nm w q od x = .inr (q', y) → NDI k m c y ∧ TLs (nTold y) y ∧ base + 4 * CtS y ≤ q' ∧ q ≤ q' ∧ q' ≤ L ∧ (0 < w ∧ q < L ∧ B q = 91 → q < q') := by
  intro w
  induction w with
  | zero =>
    intro q od x q' y h1 h2 h3 h4 h5 h6 h7 he
    have e : ((q, x) : Nat × ND) = (q', y) := Sum.inr.inj he
    have e1 : q = q' := congrArg Prod.fst e
    have e2 : x = y := congrArg Prod.snd e
    subst e1; subst e2
    have : 0 < od := by omega
    rw [if_neg (by omega)] at h4
    exact ⟨h1, h4, h5, Nat.le_refl _, h7, fun z => by omega⟩
  | succ w ih =>
    intro q od x q' y h1 h2 h3 h4 h5 h6 h7 he
    unfold vsF at he
    by_cases hc : q < L ∧ B q = 91
    · rw [if_pos hc] at he
      by_cases hu : L ≤ clF B L L (q + 1)
      · rw [if_pos hu] at he; cases he
      · rw [if_neg hu] at he
        have hge := clF_ge (B := B) (L := L) L (q + 1)
        cases hv : vlF B nm od (q + 1) (clF B L L (q + 1)) x with
        | none => rw [hv] at he; cases he
        | some y1 =>
          rw [hv] at he
          obtain ⟨k1, k2, k3, k4⟩ := vlF_inv hN h1 h2 h3 h4 hv
          have hs := skp_ge (B := B) (L := L) (clF B L L (q + 1) + 1)
          have hs2 := hs.2 (by omega)
          have := ih (skp B L (clF B L L (q + 1) + 1)) (od + 1) y1 q' y k1 (by rw [k2]; exact h2) (fun z => by omega) (by rw [if_neg (by omega)]; exact k3) (by
            rcases k4 with u | ⟨u1, u2⟩
            · omega
            · omega) (Or.inl (by omega)) hs2 he
          obtain ⟨r1, r2, r3, r4, r5, _⟩ := this
          exact ⟨r1, r2, r3, by omega, r5, fun _ => by omega⟩
    · rw [if_neg hc] at he
      have e : ((q, x) : Nat × ND) = (q', y) := Sum.inr.inj he
      have e1 : q = q' := congrArg Prod.fst e
      have e2 : x = y := congrArg Prod.snd e
      subst e1; subst e2
      have : 0 < od := by
        rcases h6 with u | u
        · exact u
        · exact absurd ⟨u.2.1, u.2.2⟩ hc
      rw [if_neg (by omega)] at h4
      exact ⟨h1, h4, h5, Nat.le_refl _, h7, fun z => absurd ⟨z.2.1, z.2.2⟩ hc⟩
theorem prF_inv {B : Nat → Int} {L k m base i : Nat} {c : Int} {x : ND} {q' : Nat} {y : ND} (h1 : NDI k m c x) (h2 : TLs (nTold x) x) (h3 : base + 4 * CtS x ≤ i) (h4 : i ≤ L) (he : prF B L (decide (k = 0)) i x = .inr (q', y)) : NDI k m c y ∧ TLs (nTold y) y ∧ base + 4 * CtS y ≤ q' ∧ i < q' ∧ q' ≤ L := by
  unfold prF at he
  by_cases hm : msF (nmF B i (grF B L L i)) (nTold x) (decide (k = 0)) = true
  · rw [if_pos hm] at he; cases he
  rw [if_neg hm] at he
  have hg := grF_ge (B := B) (L := L) L i
  have hs := skp_ge (B := B) (L := L) (grF B L L i)
  by_cases hq : skp B L (grF B L L i) < L ∧ B (skp B L (grF B L L i)) = 91
  · rw [if_pos hq] at he
    have hN := msF_ok nmF_is hm
    have e8 := h1.2.2.2.2.2.2.2
    obtain ⟨r1, r2, r3, r4, r5, r6⟩ := vsF_inv (base := base) hN L (skp B L (grF B L L i)) 0 _ q' y (h1.told nmF_is) rfl (fun _ z => e8 z) (by rw [if_pos rfl]; exact h2) (by show base + 4 * CtS x ≤ _; omega) (Or.inr ⟨by omega, hq.1, hq.2⟩) (by omega) he
    have := r6 ⟨by omega, hq.1, hq.2⟩
    exact ⟨r1, r2, r3, by omega, r5⟩
  · rw [if_neg hq] at he; cases he
theorem psF_inv {B : Nat → Int} {L k m base : Nat} {c : Int} : ∀ (w q : Nat) (x : ND) (q' : Nat) (y : ND), NDI k m c x → TLs (nTold x) x → base + 4 * CtS x ≤ q → q ≤ L → psF B L (decide (k = 0)) w q x = .inr (q', y) → NDI k m c y ∧ TLs (nTold y) y ∧ base + 4 * CtS y ≤ q' ∧ q ≤ q' ∧ q' ≤ L := by
  intro w
  induction w with
  | zero =>
    intro q x q' y h1 h2 h3 h4 he
    have e : ((q, x) : Nat × ND) = (q', y) := Sum.inr.inj he
    have e1 : q = q' := congrArg Prod.fst e
    have e2 : x = y := congrArg Prod.snd e
    subst e1; subst e2
    exact ⟨h1, h2, h3, Nat.le_refl _, h4⟩
  | succ w ih =>
    intro q x q' y h1 h2 h3 h4 he
    unfold psF at he
    by_cases hc : q < L ∧ (65 ≤ B q ∧ B q ≤ 90)
    · rw [if_pos hc] at he
      cases hp : prF B L (decide (k = 0)) q x with
      | inl f => rw [hp] at he; cases he
      | inr r =>
        obtain ⟨q1, y1⟩ := r
        rw [hp] at he
        obtain ⟨r1, r2, r3, r4, r5⟩ := prF_inv h1 h2 h3 h4 hp
        have hs := skp_ge (B := B) (L := L) q1
        obtain ⟨s1, s2, s3, s4, s5⟩ := ih (skp B L q1) y1 q' y r1 r2 (by omega) (hs.2 r5) he
        exact ⟨s1, s2, s3, by omega, s5⟩
    · rw [if_neg hc] at he
      have e : ((q, x) : Nat × ND) = (q', y) := Sum.inr.inj he
      have e1 : q = q' := congrArg Prod.fst e
      have e2 : x = y := congrArg Prod.snd e
      subst e1; subst e2
      exact ⟨h1, h2, h3, Nat.le_refl _, h4⟩
theorem nd0_i {k m : Nat} {c : Int} (hm : 3 ≤ m ∧ m ≤ 9) (hc : -200 ≤ c ∧ c ≤ 200) : NDI k m c (nd0 m c) ∧ TLs (nTold (nd0 m c)) (nd0 m c) ∧ CtS (nd0 m c) = 0 := by
  refine ⟨⟨hm, hc, fun _ => ⟨rfl, rfl⟩, fun p => ?_, fun p _ => rfl, ?_, Or.inl ⟨rfl, rfl⟩, fun _ => ⟨rfl, fun _ => rfl⟩⟩, ⟨?_, ?_⟩, cnt_0 (fun i _ z => z rfl)⟩
  · show (0 : Int) ≤ 3 ∧ (3 : Int) ≤ 3
    omega
  · show (0 : Int) ≤ 0 ∧ (0 : Int) < 128
    omega
  · constructor
    · intro z; exact absurd (show andI 0 16 = 0 by decide) z
    · rintro ⟨p, _, h⟩
      have : (3 : Int) = 1 := h
      omega
  · constructor
    · intro z; exact absurd (show andI 0 32 = 0 by decide) z
    · rintro ⟨p, _, h⟩
      have : (3 : Int) = 2 := h
      omega
def BhOk (k : Nat) (bh : Int) : Prop := (k = 0 ∧ bh = -1) ∨ ∃ b : Nat, b < k ∧ bh = (b : Int)
theorem BhOk.r {k : Nat} {bh : Int} (h : BhOk k bh) : -1 ≤ bh ∧ bh < k ∧ (bh < 0 ↔ k = 0) := by
  rcases h with ⟨h1, h2⟩ | ⟨b, h1, h2⟩ <;> omega
def StkOk (k : Nat) : List Int → Prop
  | [] => True
  | y :: ys => ((ys = [] ∧ y = -1) ∨ (ys ≠ [] ∧ ∃ b : Nat, b < k ∧ y = (b : Int))) ∧ StkOk k ys
theorem StkOk.up {k : Nat} : ∀ {l : List Int}, StkOk k l → StkOk (k + 1) l := by
  intro l
  induction l with
  | nil => intro _; trivial
  | cons y ys ih =>
    rintro ⟨h1, h2⟩
    refine ⟨?_, ih h2⟩
    rcases h1 with u | ⟨u, b, u1, u2⟩
    · exact Or.inl u
    · exact Or.inr ⟨u, b, by omega, u2⟩
noncomputable def sumT (T : ATr) (k : Nat) : Nat := cnt (fun j => tSet T (j / 81) (j % 81) ≠ 3) (81 * k)
theorem sumT_add {T : ATr} {k : Nat} {a0 a1 a2 a3 a4 a5 a6 : Int} {br st : Nat → Int} : sumT (addT T k a0 a1 a2 a3 a4 a5 a6 br st) (k + 1) = sumT T k + cnt (fun p => st p ≠ 3) 81 := by
  unfold sumT
  have key : ∀ j, j ≤ 81 → cnt (fun j => tSet (addT T k a0 a1 a2 a3 a4 a5 a6 br st) (j / 81) (j % 81) ≠ 3) (81 * k + j) = cnt (fun j => tSet T (j / 81) (j % 81) ≠ 3) (81 * k) + cnt (fun p => st p ≠ 3) j := by
    intro j
    induction j with
    | zero => intro _; exact tsum_add
    | succ j ih =>
      intro hj
      have e1 : (81 * k + j) / 81 = k := by omega
      have e2 : (81 * k + j) % 81 = j := by omega
      by_cases z : st j ≠ 3
      · rw [show 81 * k + (j + 1) = (81 * k + j) + 1 by omega, cnt_s (P := fun j => tSet (addT T k a0 a1 a2 a3 a4 a5 a6 br st) (j / 81) (j % 81) ≠ 3) (n := 81 * k + j) (by show tSet _ _ _ ≠ 3; rw [e1, e2, addT_k.2.2.2.2.2.2.2.2]; exact z), cnt_s (P := fun p => st p ≠ 3) (n := j) z, ih (by omega)]; omega
      · rw [show 81 * k + (j + 1) = (81 * k + j) + 1 by omega, cnt_n (P := fun j => tSet (addT T k a0 a1 a2 a3 a4 a5 a6 br st) (j / 81) (j % 81) ≠ 3) (n := 81 * k + j) (by show ¬ tSet _ _ _ ≠ 3; rw [e1, e2, addT_k.2.2.2.2.2.2.2.2]; exact z), cnt_n (P := fun p => st p ≠ 3) (n := j) z, ih (by omega)]
  have := key 81 (Nat.le_refl _)
  rw [show 81 * (k + 1) = 81 * k + 81 by omega]
  exact this
/-- what holds between the pieces of a text -/
def PI (st : Nat) (stk : List Int) (bh : Int) (k : Nat) (T : ATr) (m : Nat) (c : Int) (i : Nat) : Prop :=
  (3 ≤ m ∧ m ≤ 9) ∧ (-200 ≤ c ∧ c ≤ 200) ∧ TW m k T ∧ 4 * sumT T k ≤ i ∧ StkOk k stk ∧ (st ≠ 4 → BhOk k bh) ∧ (st = 0 → stk = [] ∧ k = 0) ∧ (st = 1 → stk ≠ [] ∧ stk.length ≤ k + 1) ∧ (st = 2 ∨ st = 3 → stk ≠ [] ∧ stk.length ≤ k) ∧ (st = 4 → stk = [] ∧ 1 ≤ k) ∧ st ≤ 4
theorem PI.opn {st : Nat} {stk : List Int} {bh : Int} {k : Nat} {T : ATr} {m : Nat} {c : Int} {i i' : Nat} (h : PI st stk bh k T m c i) (h1 : ¬ st = 1) (h4 : ¬ st = 4) (hi : i ≤ i') : PI 1 (bh :: stk) bh k T m c i' := by
  obtain ⟨a1, a2, a3, a4, a5, a6, a7, a8, a9, a10, a11⟩ := h
  have hb := a6 h4
  refine ⟨a1, a2, a3, by omega, ⟨?_, a5⟩, fun _ => hb, fun z => by omega, fun _ => ⟨by simp, ?_⟩, fun z => by omega, fun z => by omega, by omega⟩
  · by_cases z : st = 0
    · obtain ⟨u1, u2⟩ := a7 z
      rcases hb with u | ⟨b, u, _⟩
      · exact Or.inl ⟨u1, u.2⟩
      · omega
    · obtain ⟨u1, u2⟩ := a9 (by omega)
      rcases hb with u | u
      · rcases stk with _ | ⟨y, ys⟩
        · exact absurd rfl u1
        · simp at u2; omega
      · exact Or.inr ⟨u1, u⟩
  · by_cases z : st = 0
    · rw [(a7 z).1]; simp
    · have := (a9 (by omega)).2
      simp; exact this
theorem PI.close {st : Nat} {y : Int} {ys : List Int} {bh : Int} {k : Nat} {T : ATr} {m : Nat} {c : Int} {i i' : Nat} (h : PI st (y :: ys) bh k T m c i) (h2 : st = 2 ∨ st = 3) (hi : i ≤ i') : PI (if ys = [] then 4 else 3) ys y k T m c i' := by
  obtain ⟨a1, a2, a3, a4, ⟨a5, a5'⟩, a6, a7, a8, a9, a10, a11⟩ := h
  have hl := (a9 h2).2
  simp only [List.length_cons] at hl
  by_cases z : ys = []
  · rw [if_pos z]
    exact ⟨a1, a2, a3, by omega, a5', fun q => absurd rfl q, fun q => by omega, fun q => by omega, fun q => by omega, fun _ => ⟨z, by omega⟩, by omega⟩
  · rw [if_neg z]
    refine ⟨a1, a2, a3, by omega, a5', fun _ => ?_, fun q => by omega, fun q => by omega, fun _ => ⟨z, by omega⟩, fun q => by omega, by omega⟩
    rcases a5 with u | u
    · exact absurd u.1 z
    · exact Or.inr u.2
theorem NW_sets {m k b : Nat} {T : ATr} {br st : Nat → Int} (hW : TW m k T) (hb : b < k) (hbr : BCon m br) (hpd : Pad m br) (hst : ∀ p, 0 ≤ st p ∧ st p ≤ 3) (hsp : ∀ p, m * m ≤ p → st p = 3) :
    NW m (addT T k (b : Int) 0 0 (-1) 0 (tTrn T b) (tDep T b + 1) br st) k := by
  obtain ⟨e1, e2, e3, e4, e5, e6, e7, e8, e9⟩ := addT_k (T := T) (k := k) (a0 := (b : Int)) (a1 := 0) (a2 := 0) (a3 := -1) (a4 := 0) (a5 := tTrn T b) (a6 := tDep T b + 1) (br := br) (st := st)
  unfold NW
  rw [e1, e2, e3, e4, e5, e6, e7, e8, e9]
  have tb : ((b : Int)).toNat = b := by omega
  have hd := (hW.2.2.2 b hb).2.2.2.2.2.2.2.2.2.2.2.2.2.2.1
  rw [tb, (addT_n (show b ≠ k by omega)).2.2.2.2.2.1, (addT_n (show b ≠ k by omega)).2.2.2.2.2.2.1]
  exact ⟨fun q => by omega, fun _ => by omega, Or.inl rfl, fun _ => ⟨rfl, rfl⟩, fun q => absurd rfl q, fun q => by omega, fun q => by omega, ⟨by omega, by omega⟩, hW.trn hb, fun q => absurd rfl q, fun _ _ => rfl, fun _ q => by omega, fun q => by omega, fun _ => rfl, by omega, hbr, hpd, hst, hsp⟩
theorem ovl_ok {m : Nat} {b s : Nat → Int} (hb : BCon m b) (hp : Pad m b) (hs : ∀ p, 0 ≤ s p ∧ s p ≤ 3) (hs2 : ∀ p, m * m ≤ p → s p = 3) : BCon m (ovl b s) ∧ Pad m (ovl b s) := by
  constructor
  · intro p hp'
    show (if s p = 3 then b p else s p) = 0 ∨ (if s p = 3 then b p else s p) = 1 ∨ (if s p = 3 then b p else s p) = 2
    have := hs p
    split
    · exact hb p hp'
    · omega
  · intro p hp'
    show (if s p = 3 then b p else s p) = 0
    rw [if_pos (hs2 p hp')]; exact hp p hp'
theorem TW.sz {m m' k : Nat} {T : ATr} (h : TW m k T) (hm : 3 ≤ m' ∧ m' ≤ 9) (he : 0 < k → m' = m) : TW m' k T := by
  by_cases hk : k = 0
  · subst hk; exact TW.zero T hm.1 hm.2
  · rw [he (by omega)]; exact h
theorem stF_inv {ko bh : Int} {st k m q q' : Nat} {stk : List Int} {T T' : ATr} {c : Int} {x : ND} (h : PI st stk bh k T m c q) (hst : st = 1 ∨ st = 2) (hk : k < 250) (hx : NDI k m c x) (hq : 4 * sumT T k + 4 * CtS x ≤ q') (he : stF ko k bh T x = .inr T') : PI 2 stk (k : Int) (k + 1) T' (nSz x) (nKm x) q' := by
  obtain ⟨a1, a2, a3, a4, a5, a6, a7, a8, a9, a10, a11⟩ := h
  obtain ⟨b1, b2, b3, b4, b5, b6, b7, b8⟩ := hx
  have hW : TW (nSz x) k T := a3.sz b1 (fun z => (b3 z).1)
  have hbh := a6 (by omega)
  have hb := hbh.r
  have hbc := bB_con hW hb.2.1
  have hstk : stk ≠ [] ∧ stk.length ≤ k + 1 := by
    rcases hst with z | z
    · exact a8 z
    · have := a9 (Or.inl z); exact ⟨this.1, by omega⟩
  have fin : ∀ T'', TW (nSz x) (k + 1) T'' → 4 * sumT T'' (k + 1) ≤ q' → PI 2 stk (k : Int) (k + 1) T'' (nSz x) (nKm x) q' := fun T'' h1 h2 => ⟨b1, b2, h1, h2, a5.up, fun _ => Or.inr ⟨k, by omega, rfl⟩, fun z => by omega, fun z => by omega, fun _ => ⟨hstk.1, hstk.2⟩, fun z => by omega, by omega⟩
  unfold stF at he
  by_cases hm : nMvr x = 0
  · rw [if_pos hm] at he
    by_cases hA : Alive (nSz x) (ovl (bB T bh) (nSet x))
    · rw [iteP_t hA] at he
      cases he
      obtain ⟨o1, o2⟩ := ovl_ok hbc.1 hbc.2 b4 b5
      refine fin _ (TW.add hW hk ?_) ?_
      · rcases hbh with ⟨rfl, rfl⟩ | ⟨b, hb1, rfl⟩
        · rw [if_pos (by omega)]
          have et : trnS T (-1) (nSet x) = iteP ((∃ p, p < 81 ∧ nSet x p = 1) ∧ ¬ ∃ p, p < 81 ∧ nSet x p = 2) 2 1 := by
            unfold trnS; rw [if_pos (by omega)]
          rw [et]
          refine NW_root ?_ o1 o2 b4 b5 ?_
          · by_cases z : (∃ p, p < 81 ∧ nSet x p = 1) ∧ ¬ ∃ p, p < 81 ∧ nSet x p = 2
            · rw [iteP_t z]; exact Or.inr rfl
            · rw [iteP_f z]; exact Or.inl rfl
          · by_cases z : (∃ p, p < 81 ∧ nSet x p = 1) ∧ ¬ ∃ p, p < 81 ∧ nSet x p = 2
            · rw [iteP_t z]; exact ⟨fun _ => z, fun _ => rfl⟩
            · rw [iteP_f z]; exact ⟨fun y => absurd y (by decide), fun y => absurd y z⟩
        · rw [if_neg (by omega)]
          have et : trnS T (b : Int) (nSet x) = tTrn T b := by
            unfold trnS; rw [if_neg (by omega), show ((b : Int)).toNat = b by omega]
          rw [et, show ((b : Int)).toNat = b by omega]
          exact NW_sets hW hb1 o1 o2 b4 b5
      · rw [sumT_add]
        have : cnt (fun p => nSet x p ≠ 3) 81 = CtS x := rfl
        omega
    · rw [iteP_f hA] at he; cases he
  · rw [if_neg hm] at he
    by_cases hA : nPnt x = -1 ∨ Why (nSz x) T ko (bB T bh) bh (nPnt x).toNat (nMvr x) 0
    · rw [iteP_t hA] at he
      cases he
      have b7' : (nMvr x = 1 ∨ nMvr x = 2) ∧ (nPnt x = -1 ∨ (0 ≤ nPnt x ∧ nPnt x < ((nSz x * nSz x : Nat) : Int))) := by
        rcases b7 with u | u
        · exact absurd u.1 hm
        · exact ⟨u.1, u.2.1⟩
      have hN9 := sq_le b1.2
      refine fin _ (TW.add hW hk (NW_move hW hbh b7'.1 b7'.2 ?_ ?_ ?_)) ?_
      · split
        · omega
        · have := cnt_le (Dies (nSz x) (bB T bh) (nPnt x).toNat (nMvr x)) (nSz x * nSz x)
          omega
      · split
        · exact hbc.1
        · exact offB_con (setB_con hbc.1 b7'.1)
      · split
        · exact hbc.2
        · exact putB_pad hbc.2 (by have := b7'.2; omega)
      · rw [sumT_add, cnt_0 (fun i _ z => z rfl)]
        omega
    · rw [iteP_f hA] at he; cases he
