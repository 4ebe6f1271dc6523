theorem LvI.clrC {σ0 σ : ZSto} {m h : Nat} {bd : Nat → Int} {c : Int} (hI : LvI σ0 σ m bd c) (hh : h < m * m) (hC : Cs σ h) (h2 : cnt (fun q => Rs σ q ∧ Vit m bd c q h) (m * m) < 2) : LvI σ0 (sI σ 95 h 0) m bd c ∧ lvM (sI σ 95 h 0) m < lvM σ m := by
  obtain ⟨i1, i2, i3, i4⟩ := hI
  have eR : ∀ q, Rs (sI σ 95 h 0) q ↔ Rs σ q := fun q => by
    unfold Rs; rw [gI_if, if_neg (by omega)]
  have eC : ∀ q, Cs (sI σ 95 h 0) q ↔ (q ≠ h ∧ Cs σ q) := fun q => by
    unfold Cs; rw [gI_if]
    by_cases e : q = h
    · subst e; simp
    · simp [e]
  refine ⟨⟨i1.sI (Or.inl rfl), fun q hq => ⟨?_, fun y => (i2 q hq).2 ((eC q).mp y).2⟩, fun q hq y => i3 q hq ((eR q).mp y), fun C R hK => ⟨fun q y => (eC q).mpr ⟨?_, (i4 C R hK).1 q y⟩, fun q y => (eR q).mpr ((i4 C R hK).2 q y)⟩⟩, ?_⟩
  · rw [gI_if]
    by_cases e : q = h
    · subst e; simp
    · simp [e]; exact (i2 q hq).1
  · intro e
    subst e
    have k := (hK.1 q y).2
    have := cnt_mono (P := fun r => R r ∧ Vit m bd c r q) (Q := fun r => Rs σ r ∧ Vit m bd c r q) (n := m * m) (fun r _ u => ⟨(i4 C R hK).2 r u.1, u.2⟩)
    omega
  · unfold lvM
    have a1 : cnt (Rs (sI σ 95 h 0)) (m * m) = cnt (Rs σ) (m * m) := cnt_congr (fun q _ => eR q)
    have a2 : cnt (Cs (sI σ 95 h 0)) (m * m) < cnt (Cs σ) (m * m) := cnt_strict (fun q _ y => ((eC q).mp y).2) hh hC (fun y => ((eC h).mp y).1 rfl)
    omega
theorem LvI.clrR {σ0 σ : ZSto} {m r h : Nat} {bd : Nat → Int} {c : Int} (hI : LvI σ0 σ m bd c) (hr : r < m * m) (hR : Rs σ r) (hh : HdS m (Sc bd c) h) (hT : Tch m bd c r h) (hC : ¬ Cs σ h) : LvI σ0 (sI σ 96 r 0) m bd c ∧ lvM (sI σ 96 r 0) m < lvM σ m := by
  obtain ⟨i1, i2, i3, i4⟩ := hI
  have eC : ∀ q, Cs (sI σ 96 r 0) q ↔ Cs σ q := fun q => by
    unfold Cs; rw [gI_if, if_neg (by omega)]
  have eR : ∀ q, Rs (sI σ 96 r 0) q ↔ (q ≠ r ∧ Rs σ q) := fun q => by
    unfold Rs; rw [gI_if]
    by_cases e : q = r
    · subst e; simp
    · simp [e]
  refine ⟨⟨i1.sI (Or.inr rfl), fun q hq => ⟨?_, fun y => (i2 q hq).2 ((eC q).mp y)⟩, fun q hq y => i3 q hq ((eR q).mp y).2, fun C R hK => ⟨fun q y => (eC q).mpr ((i4 C R hK).1 q y), fun q y => (eR q).mpr ⟨?_, (i4 C R hK).2 q y⟩⟩⟩, ?_⟩
  · rw [gI_if, if_neg (by omega)]; exact (i2 q hq).1
  · intro e
    subst e
    exact hC ((i4 C R hK).1 h ((hK.2 q y).2 h hh hT))
  · unfold lvM
    have a1 : cnt (Cs (sI σ 96 r 0)) (m * m) = cnt (Cs σ) (m * m) := cnt_congr (fun q _ => eC q)
    have a2 : cnt (Rs (sI σ 96 r 0)) (m * m) < cnt (Rs σ) (m * m) := cnt_strict (fun q _ y => ((eR q).mp y).2) hr hR (fun y => ((eR r).mp y).1 rfl)
    omega
theorem RgM.kept {σ σ' : ZSto} {m : Nat} {bd : Nat → Int} {c : Int} {W : Nat → Nat → Prop} (h : RgM σ m bd c) (hf : Fr W σ σ') (hw : ∀ i, ¬ W 93 i ∧ ¬ W 94 i) : RgM σ' m bd c := by
  intro q
  rw [hf.I (hw q).1, hf.I (hw q).2]
  exact h q
theorem WAll.kept {σ σ' : ZSto} {bd : Nat → Int} {W : Nat → Nat → Prop} (h : WAll σ bd) (hf : Fr W σ σ') (hw : ∀ i, ¬ W 84 i) : WAll σ' bd := fun p hp => by
  rw [hf.I (hw p)]; exact h p hp
/-- where a pass stands: nothing gone yet, or fewer stay -/
def LvP (σp σ : ZSto) (m : Nat) (x2 : Int) (Z : Prop) : Prop := (x2 = 0 ∧ σp = σ ∧ Z) ∨ (x2 = 1 ∧ lvM σ m < lvM σp m)
/-- all that stay keep each other -/
def LvZ (σ : ZSto) (m : Nat) (bd : Nat → Int) (c : Int) : Prop := TwoV σ m bd c (m * m) ∧ TchA σ m (m * m) 0
theorem LvZ.live {σ0 σ : ZSto} {m h : Nat} {bd : Nat → Int} {c : Int} (h9 : m ≤ 9) (hI : LvI σ0 σ m bd c) (hR : RgM σ m bd c) (hZ : LvZ σ m bd c) (hh : HdS m (Sc bd c) h) : Cs σ h ↔ Live m bd c h := by
  have hN := sq_le h9
  constructor
  · intro y
    refine ⟨fun k => k < 81 ∧ Cs σ k, fun q => q < 81 ∧ Rs σ q, ⟨fun k hk => ⟨(hI.2.1 k hk.1).2 hk.2, ?_⟩, fun q hq => ⟨hI.2.2.1 q hq.1 hq.2, fun k hk ht => ?_⟩⟩, by have := hh.1; omega, y⟩
    · have k1 := ((hI.2.1 k hk.1).2 hk.2).1
      have a := hZ.1 k k1 hk.2
      have b := cnt_mono (P := fun q => Rs σ q ∧ Vit m bd c q k) (Q := fun q => (q < 81 ∧ Rs σ q) ∧ Vit m bd c q k) (n := m * m) (fun q hq u => ⟨⟨by omega, u.1⟩, u.2⟩)
      exact Nat.le_trans a b
    · obtain ⟨p, b, t1, t2, t3, t4⟩ := ht
      have hq' := hI.2.2.1 q hq.1 hq.2
      have hp := t1.lt hq'.1
      have e1 := (hR.reg hp hq').mpr t1
      have e2 := (hR.chn t2.2.1 hk).mpr t4
      have := hZ.2.1 p hp (by omega) (by rw [e1]; simpa using hq.2) b t2 (by omega)
      rw [e2] at this
      refine ⟨by have := hk.1; omega, by simpa using this⟩
  · rintro ⟨C, R, hK, hC⟩
    exact (hI.2.2.2 C R hK).1 h hC
section ZL
variable {X : ZX} {d n : Nat}
theorem lv_pass2 (hn : 104 ≤ n) {m : Nat} {bd : Nat → Int} {c x1 : Int} {P : Int → ZSto → Prop} {σ0 σp : ZSto} (h3 : 3 ≤ m) (h9 : m ≤ 9) (hm : gI σ0 73 13 = (m : Int)) (hw : WAll σ0 bd) (hR : RgM σ0 m bd c)
    (hP : ∀ (σ : ZSto) (x2 : Int), LvI σ0 σ m bd c → LvP σp σ m x2 (LvZ σ m bd c) → L_X10_lives_68 X (d + 2) n (zpZ P) x1 x2 σ) :
    ∀ (z : Nat), (∀ (σ : ZSto) (x2 : Int) (p : Nat), LvI σ0 σ m bd c → LvP σp σ m x2 (TwoV σ m bd c (m * m) ∧ TchA σ m p 0) → p ≤ m * m → 10 * (m * m - p) ≤ z → L_X10_lives_183 X (d + 2) n (zpZ P) x1 x2 (p : Int) σ) ∧
      (∀ (σ : ZSto) (x2 : Int) (p j : Nat), LvI σ0 σ m bd c → LvP σp σ m x2 (TwoV σ m bd c (m * m) ∧ TchA σ m p j) → p < m * m → 0 ≤ gI σ 93 p → j ≤ 4 → 10 * (m * m - p) - 1 - j ≤ z → L_X10_lives_225 X (d + 2) n (zpZ P) x1 x2 (p : Int) (j : Int) σ) := by
  have hN := sq_le h9
  have mm : (m : Int) * (m : Int) = ((m * m : Nat) : Int) := by simp
  intro z
  induction z using Nat.strongRecOn with
  | _ z ih =>
  constructor
  · intro σ x2 p hI hL hp hz
    have hm' : gI σ 73 13 = (m : Int) := by rw [hI.1.I (by omega)]; exact hm
    have hR' := hR.kept hI.1 (fun i => ⟨by omega, by omega⟩)
    refine b_X10_lives_183 hn ?_
    rw [hm', mm]
    refine ⟨⟨by omega, by omega⟩, fun q => ?_, fun q => ?_⟩
    · have : p = m * m := by omega
      subst this
      refine hP σ x2 hI ?_
      rcases hL with ⟨a, b, e⟩ | u
      · exact Or.inl ⟨a, b, e⟩
      · exact Or.inr u
    · have hpm : p < m * m := by omega
      have tp : ((p : Int)).toNat = p := by omega
      have rp : R32 ((p : Int) + 1) := ⟨by omega, by omega⟩
      rw [tp]
      have next : (0 ≤ gI σ 93 p → ¬ Rs σ (gI σ 93 p).toNat) → R32 ((p : Int) + 1) ∧ L_X10_lives_183 X (d + 2) n (zpZ P) x1 x2 ((p : Int) + 1) σ := by
        intro hno
        refine ⟨rp, ?_⟩
        have := (ih (10 * (m * m - (p + 1))) (by omega)).1 σ x2 (p + 1) hI ?_ (by omega) (Nat.le_refl _)
        · simpa using this
        · rcases hL with ⟨a, b, e1, e2⟩ | u
          · refine Or.inl ⟨a, b, e1, ⟨fun q hq y1 y2 => ?_, fun y1 y2 dd hd => by omega⟩⟩
            by_cases e : q = p
            · subst e; exact absurd y2 (hno y1)
            · exact e2.1 q (by omega) y1 y2
          · exact Or.inr u
      refine ⟨by omega, fun q1 => next (fun y => by omega), fun q1 => ?_⟩
      have hs : Sr bd c p := Classical.byContradiction (fun y => by have := ((hR' p).1 hpm).2.1 y; omega)
      obtain ⟨h', h1, h2⟩ := HdS.ex p hpm hs
      have e3 := ((hR' p).1 hpm).1 hs h' h1 h2
      have h1' := h1.1
      refine ⟨⟨by omega, by omega⟩, fun q2 => ?_, fun q2 => next (fun _ y => y q2)⟩
      have := (ih (10 * (m * m - p) - 1) (by omega)).2 σ x2 p 0 hI ?_ hpm (by omega) (by omega) (by omega)
      · simpa using this
      · rcases hL with ⟨a, b, e1, e2⟩ | u
        · exact Or.inl ⟨a, b, e1, e2⟩
        · exact Or.inr u
  · intro σ x2 p j hI hL hpm h93 hj hz
    have hm' : gI σ 73 13 = (m : Int) := by rw [hI.1.I (by omega)]; exact hm
    have hR' := hR.kept hI.1 (fun i => ⟨by omega, by omega⟩)
    have rp : R32 ((p : Int) + 1) := ⟨by omega, by omega⟩
    have rj : R32 ((j : Int) + 1) := ⟨by omega, by omega⟩
    have tp : ((p : Int)).toNat = p := by omega
    refine b_X10_lives_225 hn ⟨fun q => ⟨rp, ?_⟩, fun q => (sm_beside hn h3 h9 hm' hpm (show j < 4 by omega)).mono ?_⟩
    · have := (ih (10 * (m * m - (p + 1))) (by omega)).1 σ x2 (p + 1) hI ?_ (by omega) (Nat.le_refl _)
      · simpa using this
      · have : j = 4 := by omega
        subst this
        rcases hL with ⟨a, b, e1, e2⟩ | u
        · refine Or.inl ⟨a, b, e1, ⟨fun q hq y1 y2 b' hb' => ?_, fun y1 y2 dd hd => by omega⟩⟩
          by_cases e : q = p
          · subst e
            obtain ⟨dd, d1, d2⟩ := (nbM_adj (by omega) hpm).mp hb'
            exact e2.2 y1 y2 dd d1 b' d2
          · exact e2.1 q (by omega) y1 y2 b' hb'
        · exact Or.inr u
    · rintro v _ - ⟨rfl, hv⟩
      have next : ∀ (σ' : ZSto) (x2' : Int), LvI σ0 σ' m bd c → gI σ' 93 p = gI σ 93 p → LvP σp σ' m x2' (TwoV σ' m bd c (m * m) ∧ TchA σ' m p (j + 1)) → R32 ((j : Int) + 1) ∧ L_X10_lives_225 X (d + 2) n (zpZ P) x1 x2' (p : Int) ((j : Int) + 1) σ' := by
        intro σ' x2' a1 a2 a3
        refine ⟨rj, ?_⟩
        have := (ih (10 * (m * m - p) - 1 - (j + 1)) (by omega)).2 σ' x2' p (j + 1) a1 a3 hpm (by omega) (by omega) (Nat.le_refl _)
        simpa using this
      have same : (∀ b : Nat, nbM m p j = (b : Int) → 0 ≤ gI σ 94 b → 0 ≤ gI σ 93 p → Rs σ (gI σ 93 p).toNat → Cs σ (gI σ 94 b).toNat) → R32 ((j : Int) + 1) ∧ L_X10_lives_225 X (d + 2) n (zpZ P) x1 x2 (p : Int) ((j : Int) + 1) σ := by
        intro hok
        refine next σ x2 hI rfl ?_
        rcases hL with ⟨a, b, e1, e2⟩ | u
        · refine Or.inl ⟨a, b, e1, ⟨e2.1, fun y1 y2 dd hd b' hb' y3 => ?_⟩⟩
          by_cases e : dd = j
          · subst e; exact hok b' hb' y3 y1 y2
          · exact e2.2 y1 y2 dd (by omega) b' hb' y3
        · exact Or.inr u
      refine ⟨fun q1 => same (fun b hb => by omega), fun q1 => ?_⟩
      obtain ⟨b, hbN, hb⟩ : ∃ q : Nat, q < m * m ∧ nbM m p j = (q : Int) := by
        rcases nbM_in (by omega) hpm (show j < 4 by omega) with y | y
        · omega
        · exact y
      have hvb : v = (b : Int) := by rw [hv, hb]
      subst hvb
      have tb : ((b : Int)).toNat = b := by omega
      rw [tb, tp]
      have only : ∀ b' : Nat, nbM m p j = (b' : Int) → b' = b := fun b' h' => by omega
      refine ⟨by omega, fun q2 => same (fun b' hb' => by rw [only b' hb']; omega), fun q2 => ?_⟩
      have hsb : Sc bd c b := Classical.byContradiction (fun y => by have := ((hR' b).1 hbN).2.2.2 y; omega)
      obtain ⟨h', h1, h2⟩ := HdS.ex b hbN hsb
      have e3 := ((hR' b).1 hbN).2.2.1 hsb h' h1 h2
      have h1' := h1.1
      refine ⟨⟨by omega, by omega⟩, fun q3 => same (fun b' hb' _ _ _ => by rw [only b' hb']; exact q3), fun q3 => ?_⟩
      have hs : Sr bd c p := Classical.byContradiction (fun y => by have := ((hR' p).1 hpm).2.1 y; omega)
      obtain ⟨r', r1, r2⟩ := HdS.ex p hpm hs
      have e4 := ((hR' p).1 hpm).1 hs r' r1 r2
      have r1' := r1.1
      refine ⟨by omega, ⟨by omega, by omega⟩, fun q4 => ?_, fun q4 => same (fun b' hb' _ _ y => absurd q4 y)⟩
      have er : (gI σ 93 p).toNat = r' := by omega
      have eh : (gI σ 94 b).toNat = h' := by omega
      rw [er] at q4 ⊢
      rw [eh] at q3
      have ha : Adj m p b := (nbM_adj (by omega) hpm).mpr ⟨j, by omega, hb⟩
      have := hI.clrR r1' q4 h1 ⟨p, b, r2, ha, hsb, h2⟩ (fun y => y q3)
      refine next _ 1 this.1 (by rw [gI_if, if_neg (by omega)]) (Or.inr ⟨rfl, ?_⟩)
      have t2 := this.2
      rcases hL with ⟨a, b, e⟩ | u
      · rw [b]; exact t2
      · have := u.2; omega
theorem lv_pass1 (hn : 104 ≤ n) {m : Nat} {bd : Nat → Int} {c x1 : Int} {P : Int → ZSto → Prop} {σ0 σp : ZSto} (h3 : 3 ≤ m) (h9 : m ≤ 9) (hm : gI σ0 73 13 = (m : Int)) (hw : WAll σ0 bd) (hR : RgM σ0 m bd c)
    (hP : ∀ (σ : ZSto) (x2 : Int), LvI σ0 σ m bd c → LvP σp σ m x2 (LvZ σ m bd c) → L_X10_lives_68 X (d + 2) n (zpZ P) x1 x2 σ) :
    ∀ (z : Nat) (σ : ZSto) (x2 : Int) (p : Nat), LvI σ0 σ m bd c → LvP σp σ m x2 (TwoV σ m bd c p) → p ≤ m * m → m * m - p ≤ z → L_X10_lives_76 X (d + 2) n (zpZ P) x1 x2 (p : Int) σ := by
  have hN := sq_le h9
  have mm : (m : Int) * (m : Int) = ((m * m : Nat) : Int) := by simp
  intro z
  induction z with
  | zero =>
    intro σ x2 p hI hL hp hz
    have hm' : gI σ 73 13 = (m : Int) := by rw [hI.1.I (by omega)]; exact hm
    have : p = m * m := by omega
    subst this
    refine b_X10_lives_76 hn ?_
    rw [hm', mm]
    refine ⟨⟨by omega, by omega⟩, fun q => ?_, fun q => by omega⟩
    have := (lv_pass2 hn h3 h9 hm hw hR hP (10 * (m * m))).1 σ x2 0 hI ?_ (by omega) (by omega)
    · simpa using this
    · rcases hL with ⟨a, b, e⟩ | u
      · exact Or.inl ⟨a, b, e, ⟨fun q hq => by omega, fun y1 y2 dd hd => by omega⟩⟩
      · exact Or.inr u
  | succ z ih =>
    intro σ x2 p hI hL hp hz
    have hm' : gI σ 73 13 = (m : Int) := by rw [hI.1.I (by omega)]; exact hm
    have hR' := hR.kept hI.1 (fun i => ⟨by omega, by omega⟩)
    have hw' := hw.kept hI.1 (fun i => by omega)
    refine b_X10_lives_76 hn ?_
    rw [hm', mm]
    refine ⟨⟨by omega, by omega⟩, fun q => ?_, fun q => ?_⟩
    · have : p = m * m := by omega
      subst this
      have := (lv_pass2 hn h3 h9 hm hw hR hP (10 * (m * m))).1 σ x2 0 hI ?_ (by omega) (by omega)
      · simpa using this
      · rcases hL with ⟨a, b, e⟩ | u
        · exact Or.inl ⟨a, b, e, ⟨fun q hq => by omega, fun y1 y2 dd hd => by omega⟩⟩
        · exact Or.inr u
    · have hpm : p < m * m := by omega
      have tp : ((p : Int)).toNat = p := by omega
      have rp : R32 ((p : Int) + 1) := ⟨by omega, by omega⟩
      rw [tp]
      have grow : (Cs σ p → 2 ≤ cnt (fun q => Rs σ q ∧ Vit m bd c q p) (m * m)) → L_X10_lives_76 X (d + 2) n (zpZ P) x1 x2 ((p : Int) + 1) σ := by
        intro hok
        have := ih σ x2 (p + 1) hI ?_ (by omega) (by omega)
        · simpa using this
        · rcases hL with ⟨a, b, e⟩ | u
          · refine Or.inl ⟨a, b, fun k hk y => ?_⟩
            by_cases e1 : k = p
            · subst e1; exact hok y
            · exact e k (by omega) y
          · exact Or.inr u
      refine ⟨by omega, fun q1 => ?_, fun q1 => ⟨rp, grow (fun y => absurd q1 y)⟩⟩
      refine lv107 hn h3 h9 hm' hw' hR' ((hI.2.1 p (by omega)).2 q1) hI.2.2.1 ⟨fun q2 => ?_, fun q2 => grow (fun _ => by omega)⟩
      have := hI.clrC hpm q1 q2
      have k := ih (sI σ 95 p 0) 1 (p + 1) this.1 (Or.inr ⟨rfl, ?_⟩) (by omega) (by omega)
      · simpa using k
      · have t2 := this.2
        rcases hL with ⟨a, b, e⟩ | u
        · rw [b]; exact t2
        · have := u.2; omega
theorem lv_loop (hn : 104 ≤ n) {m : Nat} {bd : Nat → Int} {c x1 : Int} {P : Int → ZSto → Prop} {σ0 : ZSto} (h3 : 3 ≤ m) (h9 : m ≤ 9) (hm : gI σ0 73 13 = (m : Int)) (hw : WAll σ0 bd) (hR : RgM σ0 m bd c)
    (hP : ∀ (σ : ZSto), LvI σ0 σ m bd c → LvZ σ m bd c → L_X10_lives_68 X (d + 2) n (zpZ P) x1 0 σ) :
    ∀ (z : Nat) (σ : ZSto), LvI σ0 σ m bd c → lvM σ m ≤ z → L_X10_lives_68 X (d + 2) n (zpZ P) x1 1 σ := by
  intro z
  induction z using Nat.strongRecOn with
  | _ z ih =>
  intro σ hI hz
  refine b_X10_lives_68 hn ⟨fun q => by omega, fun _ => ?_⟩
  have := lv_pass1 (σp := σ) hn h3 h9 hm hw hR (P := P) (x1 := x1) (d := d) (X := X) (fun σ' x2 h1 h2 => ?_) (m * m) σ 0 0 hI (Or.inl ⟨rfl, rfl, fun k hk => by omega⟩) (by omega) (by omega)
  · simpa using this
  · rcases h2 with ⟨a, b, e⟩ | ⟨a, b⟩
    · subst a; exact hP σ' h1 e
    · subst a
      exact ih (lvM σ' m) (by omega) σ' h1 (Nat.le_refl _)
def lvW (a i : Nat) : Prop := (85 ≤ a ∧ a ≤ 87) ∨ (93 ≤ a ∧ a ≤ 96)
theorem sm_lives {σ : ZSto} (hn : 104 ≤ n) {m s : Nat} {bd : Nat → Int} (h3 : 3 ≤ m) (h9 : m ≤ 9) (hm : gI σ 73 13 = (m : Int)) (hw0 : WAll σ bd) (hcon : BCon m bd) (hs : s < m * m) (hc : bd s = 1 ∨ bd s = 2) :
    ZkZ X M_X10_lives (d + 4) n [.ref (zB X + 73), iV (s : Int)] σ (fun v σ' => Fr lvW σ σ' ∧ ∀ h, HdS m (Sc bd (bd s)) h → Rch m (Sc bd (bd s)) h s → ((v = 1 ∧ Live m bd (bd s) h) ∨ (v = 0 ∧ ¬ Live m bd (bd s) h))) := by
  have hN := sq_le h9
  have ts : ((s : Int)).toNat = s := by omega
  refine w_X10_lives hn ⟨by omega, by omega⟩ ?_
  rw [ts, hw0 s (by omega)]
  refine ⟨⟨by omega, by omega⟩, (sm_regions hn h3 h9 hm hw0 hcon hc).mono ?_⟩
  rintro σ1 ⟨hf, hR⟩
  have hm1 : gI σ1 73 13 = (m : Int) := by rw [hf.I (by unfold rgW; omega)]; exact hm
  have hw1 := hw0.kept hf (fun i => by unfold rgW; omega)
  -- the end
  have fin : ∀ (σ2 : ZSto), LvI σ1 σ2 m bd (bd s) → LvZ σ2 m bd (bd s) → L_X10_lives_68 X (d + 3) n (zpZ (fun v σ' => Fr lvW σ σ' ∧ ∀ h, HdS m (Sc bd (bd s)) h → Rch m (Sc bd (bd s)) h s → ((v = 1 ∧ Live m bd (bd s) h) ∨ (v = 0 ∧ ¬ Live m bd (bd s) h)))) (s : Int) 0 σ2 := by
    intro σ2 hI hZ
    have hR2 := hR.kept hI.1 (fun i => ⟨by omega, by omega⟩)
    obtain ⟨h', h1, h2⟩ := HdS.ex (S := Sc bd (bd s)) (m := m) s hs rfl
    have e := ((hR2 s).1 hs).2.2.1 rfl h' h1 h2
    have h1' := h1.1
    have te : (gI σ2 94 s).toNat = h' := by omega
    refine b_X10_lives_68 hn ⟨fun _ => ?_, fun q => absurd rfl q⟩
    rw [ts, te]
    refine ⟨⟨by omega, by omega⟩, ⟨by omega, by omega⟩, (hf.mono (W' := lvW) (fun a i y => by unfold rgW at y; unfold lvW; omega)).tr (hI.1.mono (fun a i y => by unfold lvW; omega)), fun h g1 g2 => ?_⟩
    have : h = h' := g1.uniq h1 g2 h2
    subst this
    have k := hZ.live h9 hI hR2 h1
    rcases (hI.2.1 h (by omega)).1 with z | z
    · exact Or.inr ⟨z, fun y => (k.mpr y) z⟩
    · exact Or.inl ⟨z, k.mp (fun y => by omega)⟩
  have := upto (N := 81) (Q := fun j τ => L_X10_lives_12 X (d + 3) n (zpZ (fun v σ' => Fr lvW σ σ' ∧ ∀ h, HdS m (Sc bd (bd s)) h → Rch m (Sc bd (bd s)) h s → ((v = 1 ∧ Live m bd (bd s) h) ∨ (v = 0 ∧ ¬ Live m bd (bd s) h)))) (s : Int) (j : Int) τ) (I := fun j τ => Fr (fun a i => a = 95 ∨ a = 96) σ1 τ ∧ ∀ q, q < j → ((gI τ 95 q = 1 ∧ HdS m (Sc bd (bd s)) q) ∨ (gI τ 95 q = 0 ∧ ¬ HdS m (Sc bd (bd s)) q)) ∧ ((gI τ 96 q = 1 ∧ HdS m (Sr bd (bd s)) q) ∨ (gI τ 96 q = 0 ∧ ¬ HdS m (Sr bd (bd s)) q))) ?_ ?_ 0 σ1 (by omega) ⟨Fr.rf, fun q hq => by omega⟩
  · simpa using this
  · rintro τ ⟨i1, i2⟩
    refine b_X10_lives_12 hn ⟨fun _ => ?_, fun q => by omega⟩
    refine lv_loop hn h3 h9 hm1 hw1 hR fin (lvM τ m) τ ⟨i1, fun q hq => ⟨?_, fun y => ?_⟩, fun q hq y => ?_, fun C R hK => ⟨fun q hC y => ?_, fun q hC y => ?_⟩⟩ (Nat.le_refl _)
    · rcases (i2 q hq).1 with z | z
      · exact Or.inr z.1
      · exact Or.inl z.1
    · rcases (i2 q hq).1 with z | z
      · exact z.2
      · exact absurd z.1 y
    · rcases (i2 q hq).2 with z | z
      · exact z.2
      · exact absurd z.1 y
    · have k := (hK.1 q hC).1
      have := k.1
      rcases (i2 q (by omega)).1 with z | z
      · omega
      · exact z.2 k
    · have k := (hK.2 q hC).1
      have := k.1
      rcases (i2 q (by omega)).2 with z | z
      · omega
      · exact z.2 k
  · rintro j τ hj ⟨i1, i2⟩ ih
    have tj : ((j : Int)).toNat = j := by omega
    have rj : R32 ((j : Int) + 1) := ⟨by omega, by omega⟩
    have hR2 := hR.kept i1 (fun i => ⟨by omega, by omega⟩)
    have step : ∀ (u v : Int), ((u = 1 ∧ HdS m (Sc bd (bd s)) j) ∨ (u = 0 ∧ ¬ HdS m (Sc bd (bd s)) j)) → ((v = 1 ∧ HdS m (Sr bd (bd s)) j) ∨ (v = 0 ∧ ¬ HdS m (Sr bd (bd s)) j)) → R32 ((j : Int) + 1) ∧ L_X10_lives_12 X (d + 3) n (zpZ (fun v σ' => Fr lvW σ σ' ∧ ∀ h, HdS m (Sc bd (bd s)) h → Rch m (Sc bd (bd s)) h s → ((v = 1 ∧ Live m bd (bd s) h) ∨ (v = 0 ∧ ¬ Live m bd (bd s) h)))) (s : Int) ((j : Int) + 1) (sI (sI τ 95 j u) 96 j v) := by
      intro u v hu hv
      refine ⟨rj, ?_⟩
      have := ih (sI (sI τ 95 j u) 96 j v) ⟨(i1.sI (Or.inl rfl)).sI (Or.inr rfl), fun q hq => ?_⟩
      · simpa using this
      · by_cases e : q = j
        · subst e
          simp only [gI_if]
          simpa using ⟨hu, hv⟩
        · simp only [gI_if, e, and_false, if_false]
          exact i2 q (by omega)
    refine b_X10_lives_12 hn ⟨fun q => by omega, fun _ => ?_⟩
    rw [tj, hR2.chd (show j < 81 by omega), hR2.rhd (show j < 81 by omega)]
    exact ⟨by omega, fun y1 => ⟨fun y2 => step 0 0 (Or.inr ⟨rfl, y1⟩) (Or.inr ⟨rfl, y2⟩), fun y2 => step 0 1 (Or.inr ⟨rfl, y1⟩) (Or.inl ⟨rfl, y2⟩)⟩, fun y1 => ⟨fun y2 => step 1 0 (Or.inl ⟨rfl, y1⟩) (Or.inr ⟨rfl, y2⟩), fun y2 => step 1 1 (Or.inl ⟨rfl, y1⟩) (Or.inl ⟨rfl, y2⟩)⟩⟩
end ZL
