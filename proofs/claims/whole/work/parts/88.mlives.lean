theorem RgM.reg {σ : ZSto} {m q h : Nat} {bd : Nat → Int} {c : Int} (hR : RgM σ m bd c) (hq : q < m * m) (hh : HdS m (Sr bd c) h) : gI σ 93 q = (h : Int) ↔ Rch m (Sr bd c) h q := by
  constructor
  · intro e
    have hs : Sr bd c q := Classical.byContradiction (fun z => by have := ((hR q).1 hq).2.1 z; omega)
    obtain ⟨h', h1, h2⟩ := HdS.ex q hq hs
    have := ((hR q).1 hq).1 hs h' h1 h2
    have : h' = h := by omega
    subst this; exact h2
  · intro e
    exact ((hR q).1 hq).1 (e.inS hh.2.1) h hh e
theorem RgM.chn {σ : ZSto} {m q h : Nat} {bd : Nat → Int} {c : Int} (hR : RgM σ m bd c) (hq : q < m * m) (hh : HdS m (Sc bd c) h) : gI σ 94 q = (h : Int) ↔ Rch m (Sc bd c) h q := by
  constructor
  · intro e
    have hs : Sc bd c q := Classical.byContradiction (fun z => by have := ((hR q).1 hq).2.2.2 z; omega)
    obtain ⟨h', h1, h2⟩ := HdS.ex q hq hs
    have := ((hR q).1 hq).2.2.1 hs h' h1 h2
    have : h' = h := by omega
    subst this; exact h2
  · intro e
    exact ((hR q).1 hq).2.2.1 (e.inS hh.2.1) h hh e
theorem RgM.rhd {σ : ZSto} {m q : Nat} {bd : Nat → Int} {c : Int} (hR : RgM σ m bd c) (hq : q < 81) : gI σ 93 q = (q : Int) ↔ HdS m (Sr bd c) q := by
  by_cases hm : q < m * m
  · constructor
    · intro e
      have hs : Sr bd c q := Classical.byContradiction (fun z => by have := ((hR q).1 hm).2.1 z; omega)
      obtain ⟨h', h1, h2⟩ := HdS.ex q hm hs
      have := ((hR q).1 hm).1 hs h' h1 h2
      have : h' = q := by omega
      subst this; exact h1
    · intro e; exact ((hR q).1 hm).1 e.2.1 q e Rch.rf
  · have := ((hR q).2 (by omega) hq).1
    exact ⟨fun e => by omega, fun e => absurd e.1 hm⟩
theorem RgM.chd {σ : ZSto} {m q : Nat} {bd : Nat → Int} {c : Int} (hR : RgM σ m bd c) (hq : q < 81) : gI σ 94 q = (q : Int) ↔ HdS m (Sc bd c) q := by
  by_cases hm : q < m * m
  · constructor
    · intro e
      have hs : Sc bd c q := Classical.byContradiction (fun z => by have := ((hR q).1 hm).2.2.2 z; omega)
      obtain ⟨h', h1, h2⟩ := HdS.ex q hm hs
      have := ((hR q).1 hm).2.2.1 hs h' h1 h2
      have : h' = q := by omega
      subst this; exact h1
    · intro e; exact ((hR q).1 hm).2.2.1 e.2.1 q e Rch.rf
  · have := ((hR q).2 (by omega) hq).2
    exact ⟨fun e => by omega, fun e => absurd e.1 hm⟩
section ZL
variable {X : ZX} {d n : Nat} {σ : ZSto}
theorem sm_isVital (hn : 104 ≤ n) {m r h : Nat} {bd : Nat → Int} {c : Int} (h3 : 3 ≤ m) (h9 : m ≤ 9) (hm : gI σ 73 13 = (m : Int)) (hw : WAll σ bd) (hR : RgM σ m bd c) (hr : HdS m (Sr bd c) r) (hh : HdS m (Sc bd c) h) :
    ZkZ X M_X10_isVital (d + 2) n [.ref (zB X + 73), iV (r : Int), iV (h : Int)] σ (fun v σ' => σ = σ' ∧ ((v = 1 ∧ Vit m bd c r h) ∨ (v = 0 ∧ ¬ Vit m bd c r h))) := by
  have hN := sq_le h9
  have mm : (m : Int) * (m : Int) = ((m * m : Nat) : Int) := by simp
  have hr1 := hr.1
  have hh1 := hh.1
  refine w_X10_isVital hn ⟨by omega, by omega⟩ ⟨by omega, by omega⟩ ?_
  -- beside the chain: four directions
  have four : ∀ (p : Nat) (x3 : Int), p < m * m → (x3 = 0 ∨ x3 = 1) → ((∃ b, Adj m p b ∧ Sc bd c b ∧ Rch m (Sc bd c) h b) → R32 ((p : Int) + 1) ∧ L_X10_isVital_5 X (d + 1) n (zpZ (fun v σ' => σ = σ' ∧ ((v = 1 ∧ Vit m bd c r h) ∨ (v = 0 ∧ ¬ Vit m bd c r h)))) (r : Int) (h : Int) x3 ((p : Int) + 1) σ) → ((¬ ∃ b, Adj m p b ∧ Sc bd c b ∧ Rch m (Sc bd c) h b) → σ = σ ∧ (((0 : Int) = 1 ∧ Vit m bd c r h) ∨ ((0 : Int) = 0 ∧ ¬ Vit m bd c r h))) → ∀ (w j : Nat) (x5 : Int), 4 - j ≤ w → j ≤ 4 → (x5 = 0 ∨ x5 = 1) → ((x5 = 1) ↔ ExB j (fun dd => ∃ b : Nat, nbM m p dd = (b : Int) ∧ gI σ 94 b = (h : Int))) → L_X10_isVital_51 X (d + 1) n (zpZ (fun v σ' => σ = σ' ∧ ((v = 1 ∧ Vit m bd c r h) ∨ (v = 0 ∧ ¬ Vit m bd c r h)))) (r : Int) (h : Int) x3 (p : Int) x5 (j : Int) σ := by
    intro p x3 hp hx3 hY hN0
    have iff4 : ExB 4 (fun dd => ∃ b : Nat, nbM m p dd = (b : Int) ∧ gI σ 94 b = (h : Int)) ↔ ∃ b, Adj m p b ∧ Sc bd c b ∧ Rch m (Sc bd c) h b := by
      constructor
      · rintro ⟨dd, h1, b, h2, h4⟩
        have ha : Adj m p b := (nbM_adj (by omega) hp).mpr ⟨dd, h1, h2⟩
        have := (hR.chn ha.2.1 hh).mp h4
        exact ⟨b, ha, this.inS hh.2.1, this⟩
      · rintro ⟨b, ha, hs, h4⟩
        obtain ⟨dd, h1, h2⟩ := (nbM_adj (by omega) hp).mp ha
        exact ⟨dd, h1, b, h2, (hR.chn ha.2.1 hh).mpr h4⟩
    intro w
    induction w with
    | zero =>
      intro j x5 hw hj hx5 hi
      have : j = 4 := by omega
      subst this
      exact b_X10_isVital_51 hn ⟨fun _ => ⟨fun z => hY (iff4.mp (hi.mp (by omega))), fun z => hN0 (fun y => by have := hi.mpr (iff4.mpr y); omega)⟩, fun q => by omega⟩
    | succ w ih =>
      intro j x5 hw hj hx5 hi
      by_cases e4 : j = 4
      · subst e4
        exact b_X10_isVital_51 hn ⟨fun _ => ⟨fun z => hY (iff4.mp (hi.mp (by omega))), fun z => hN0 (fun y => by have := hi.mpr (iff4.mpr y); omega)⟩, fun q => by omega⟩
      have rj : R32 ((j : Int) + 1) := ⟨by omega, by omega⟩
      refine b_X10_isVital_51 hn ⟨fun q => by omega, fun _ => (sm_beside hn h3 h9 hm hp (show j < 4 by omega)).mono ?_⟩
      rintro v _ - ⟨rfl, hv⟩
      refine ⟨fun z => ⟨rj, ?_⟩, fun z => ⟨fun z2 => ⟨rj, ?_⟩, fun z2 => ?_⟩⟩
      · have := ih (j + 1) 1 (by omega) (by omega) (Or.inr rfl) ⟨fun _ => exB_s.mpr (Or.inl (hi.mp (by omega))), fun _ => rfl⟩
        simpa using this
      · have := ih (j + 1) 0 (by omega) (by omega) (Or.inl rfl) ⟨fun y => by omega, fun y => by
          rcases exB_s.mp y with y | ⟨b, y, _⟩
          · have := hi.mpr y; omega
          · omega⟩
        simpa using this
      · obtain ⟨b, hbN, hb⟩ : ∃ q : Nat, q < m * m ∧ nbM m p j = (q : Int) := by
          rcases nbM_in (by omega) hp (show j < 4 by omega) with y | y
          · omega
          · exact y
        have hvb : v = (b : Int) := by rw [hv, hb]
        subst hvb
        have tb : ((b : Int)).toNat = b := by omega
        rw [tb]
        refine ⟨by omega, fun z3 => ⟨rj, ?_⟩, fun z3 => ⟨rj, ?_⟩⟩
        · have := ih (j + 1) 0 (by omega) (by omega) (Or.inl rfl) ⟨fun y => by omega, fun y => by
            rcases exB_s.mp y with y | ⟨b', y1, y2⟩
            · have := hi.mpr y; omega
            · have : b' = b := by omega
              subst this; exact absurd y2 z3⟩
          simpa using this
        · have := ih (j + 1) 1 (by omega) (by omega) (Or.inr rfl) ⟨fun _ => exB_s.mpr (Or.inr ⟨b, hb, z3⟩), fun _ => rfl⟩
          simpa using this
  have key : ∀ (w p : Nat) (x3 : Int), m * m - p ≤ w → p ≤ m * m → (x3 = 0 ∨ x3 = 1) → (x3 = 1 ↔ ExB p (fun q => Rch m (Sr bd c) r q ∧ bd q = 0)) → (∀ q, q < p → Rch m (Sr bd c) r q → bd q = 0 → ∃ b, Adj m q b ∧ Sc bd c b ∧ Rch m (Sc bd c) h b) → L_X10_isVital_5 X (d + 1) n (zpZ (fun v σ' => σ = σ' ∧ ((v = 1 ∧ Vit m bd c r h) ∨ (v = 0 ∧ ¬ Vit m bd c r h)))) (r : Int) (h : Int) x3 (p : Int) σ := by
    intro w
    induction w with
    | zero =>
      intro p x3 hw' hp hx hi hall
      have : p = m * m := by omega
      subst this
      refine b_X10_isVital_5 hn ?_
      rw [hm, mm]
      refine ⟨⟨by omega, by omega⟩, fun _ => ⟨hx, rfl, ?_⟩, fun q => by omega⟩
      rcases hx with z | z
      · refine Or.inr ⟨z, fun y => ?_⟩
        obtain ⟨⟨q, q1, q2⟩, _⟩ := y
        have := hi.mpr ⟨q, q1.lt hr1, q1, q2⟩
        omega
      · obtain ⟨q, q0, q1, q2⟩ := hi.mp z
        exact Or.inl ⟨z, ⟨q, q1, q2⟩, fun q q1 q2 => hall q (q1.lt hr1) q1 q2⟩
    | succ w ih =>
      intro p x3 hw' hp hx hi hall
      refine b_X10_isVital_5 hn ?_
      rw [hm, mm]
      refine ⟨⟨by omega, by omega⟩, fun z => ?_, fun z => ?_⟩
      · have : p = m * m := by omega
        subst this
        refine ⟨hx, rfl, ?_⟩
        rcases hx with z | z
        · refine Or.inr ⟨z, fun y => ?_⟩
          obtain ⟨⟨q, q1, q2⟩, _⟩ := y
          have := hi.mpr ⟨q, q1.lt hr1, q1, q2⟩
          omega
        · obtain ⟨q, q0, q1, q2⟩ := hi.mp z
          exact Or.inl ⟨z, ⟨q, q1, q2⟩, fun q q1 q2 => hall q (q1.lt hr1) q1 q2⟩
      · have hpm : p < m * m := by omega
        have tp : ((p : Int)).toNat = p := by omega
        have rp : R32 ((p : Int) + 1) := ⟨by omega, by omega⟩
        rw [tp, hR.reg hpm hr, hw p (by omega)]
        have skip : ¬ (Rch m (Sr bd c) r p ∧ bd p = 0) → R32 ((p : Int) + 1) ∧ L_X10_isVital_5 X (d + 1) n (zpZ (fun v σ' => σ = σ' ∧ ((v = 1 ∧ Vit m bd c r h) ∨ (v = 0 ∧ ¬ Vit m bd c r h)))) (r : Int) (h : Int) x3 ((p : Int) + 1) σ := by
          intro hno
          have := ih (p + 1) x3 (by omega) (by omega) hx ⟨fun y => exB_s.mpr (Or.inl (hi.mp y)), fun y => (exB_s.mp y).elim hi.mpr (fun u => absurd u hno)⟩ (fun q hq q1 q2 => by
            by_cases e : q = p
            · rw [e] at q1 q2; exact absurd ⟨q1, q2⟩ hno
            · exact hall q (by omega) q1 q2)
          exact ⟨rp, by simpa using this⟩
        refine ⟨by omega, fun z1 => skip (fun y => z1 y.1), fun z1 => ⟨fun z2 => ?_, fun z2 => skip (fun y => z2 y.2)⟩⟩
        have := four p 1 hpm (Or.inr rfl) (fun y => ⟨rp, ?_⟩) (fun y => ⟨rfl, Or.inr ⟨rfl, fun u => y (u.2 p z1 z2)⟩⟩) 4 0 0 (by omega) (by omega) (Or.inl rfl) ⟨fun u => by omega, fun u => absurd u exB_0⟩
        · simpa using this
        · have := ih (p + 1) 1 (by omega) (by omega) (Or.inr rfl) ⟨fun _ => exB_s.mpr (Or.inr ⟨z1, z2⟩), fun _ => rfl⟩ (fun q hq q1 q2 => by
            by_cases e : q = p
            · rw [e]; exact y
            · exact hall q (by omega) q1 q2)
          simpa using this
  have := key (m * m) 0 0 (by omega) (by omega) (Or.inl rfl) ⟨fun y => by omega, fun y => absurd y exB_0⟩ (fun q hq => by omega)
  simpa using this
/-- chains and regions that stay -/
def Cs (σ : ZSto) (h : Nat) : Prop := ¬ gI σ 95 h = 0
def Rs (σ : ZSto) (q : Nat) : Prop := ¬ gI σ 96 q = 0
def LvI (σ0 σ : ZSto) (m : Nat) (bd : Nat → Int) (c : Int) : Prop := Fr (fun a i => a = 95 ∨ a = 96) σ0 σ ∧ (∀ h, h < 81 → (gI σ 95 h = 0 ∨ gI σ 95 h = 1) ∧ (Cs σ h → HdS m (Sc bd c) h)) ∧ (∀ q, q < 81 → Rs σ q → HdS m (Sr bd c) q) ∧ ∀ C R, Keep m bd c C R → (∀ h, C h → Cs σ h) ∧ ∀ q, R q → Rs σ q
noncomputable def lvM (σ : ZSto) (m : Nat) : Nat := cnt (Cs σ) (m * m) + cnt (Rs σ) (m * m)
/-- every chain that stays has two vital regions that stay -/
def TwoV (σ : ZSto) (m : Nat) (bd : Nat → Int) (c : Int) (p : Nat) : Prop := ∀ h, h < p → Cs σ h → 2 ≤ cnt (fun q => Rs σ q ∧ Vit m bd c q h) (m * m)
/-- regions that stay touch chains that stay, by their points ahead of p, and of p's directions ahead of j -/
def TchA (σ : ZSto) (m : Nat) (p j : Nat) : Prop := (∀ q, q < p → 0 ≤ gI σ 93 q → Rs σ (gI σ 93 q).toNat → ∀ b : Nat, Adj m q b → 0 ≤ gI σ 94 b → Cs σ (gI σ 94 b).toNat) ∧ (0 ≤ gI σ 93 p → Rs σ (gI σ 93 p).toNat → ∀ dd, dd < j → ∀ b : Nat, nbM m p dd = (b : Int) → 0 ≤ gI σ 94 b → Cs σ (gI σ 94 b).toNat)
theorem lv107 (hn : 104 ≤ n) {m h : Nat} {bd : Nat → Int} {c x1 x2 : Int} {P : Int → ZSto → Prop} (h3 : 3 ≤ m) (h9 : m ≤ 9) (hm : gI σ 73 13 = (m : Int)) (hw : WAll σ bd) (hR : RgM σ m bd c) (hh : HdS m (Sc bd c) h) (hRs : ∀ q, q < 81 → Rs σ q → HdS m (Sr bd c) q)
    (hP : (cnt (fun q => Rs σ q ∧ Vit m bd c q h) (m * m) < 2 → L_X10_lives_76 X (d + 2) n (zpZ P) x1 1 ((h : Int) + 1) (sI σ 95 h 0)) ∧ (¬ cnt (fun q => Rs σ q ∧ Vit m bd c q h) (m * m) < 2 → L_X10_lives_76 X (d + 2) n (zpZ P) x1 x2 ((h : Int) + 1) σ)) :
    L_X10_lives_107 X (d + 2) n (zpZ P) x1 x2 (h : Int) 0 0 σ := by
  have hN := sq_le h9
  have mm : (m : Int) * (m : Int) = ((m * m : Nat) : Int) := by simp
  have hh1 := hh.1
  have th : ((h : Int)).toNat = h := by omega
  have rh : R32 ((h : Int) + 1) := ⟨by omega, by omega⟩
  have := upto (N := m * m) (Q := fun j τ => L_X10_lives_107 X (d + 2) n (zpZ P) x1 x2 (h : Int) ((cnt (fun q => Rs σ q ∧ Vit m bd c q h) j : Nat) : Int) (j : Int) τ) (I := fun j τ => σ = τ) ?_ ?_ 0 σ (by omega) rfl
  · simpa [cnt] using this
  · rintro _ rfl
    refine b_X10_lives_107 hn ?_
    rw [hm, mm, th]
    exact ⟨⟨by omega, by omega⟩, fun _ => ⟨fun q => ⟨by omega, rh, hP.1 (by omega)⟩, fun q => ⟨rh, hP.2 (by omega)⟩⟩, fun q => by omega⟩
  · rintro j _ hj rfl ih
    have tj : ((j : Int)).toNat = j := by omega
    have rj : R32 ((j : Int) + 1) := ⟨by omega, by omega⟩
    have hcl := cnt_le (fun q => Rs σ q ∧ Vit m bd c q h) j
    have key := ih σ rfl
    refine b_X10_lives_107 hn ?_
    rw [hm, mm, tj]
    refine ⟨⟨by omega, by omega⟩, fun q => by omega, fun _ => ⟨by omega, fun q => ⟨⟨by omega, by omega⟩, rj, ?_⟩, fun q => (sm_isVital hn h3 h9 hm hw hR (hRs j (by omega) q) hh).mono ?_⟩⟩
    · rw [cnt_n (P := fun q => Rs σ q ∧ Vit m bd c q h) (n := j) (fun y => y.1 q)] at key
      simpa using key
    · rintro v _ - ⟨rfl, hv⟩
      refine ⟨fun z => ⟨⟨by omega, by omega⟩, rj, ?_⟩, fun z => ⟨⟨by omega, by omega⟩, rj, ?_⟩⟩
      · rw [cnt_n (P := fun q => Rs σ q ∧ Vit m bd c q h) (n := j) (fun y => by
          rcases hv with ⟨u, _⟩ | ⟨_, u⟩
          · omega
          · exact u y.2)] at key
        simpa using key
      · rw [cnt_s (P := fun q => Rs σ q ∧ Vit m bd c q h) (n := j) ⟨q, by
          rcases hv with ⟨_, u⟩ | ⟨u, _⟩
          · exact u
          · omega⟩] at key
        simpa using key
end ZL
