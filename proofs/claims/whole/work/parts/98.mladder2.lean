def MnR (σ : ZSto) (m : Nat) (bd : Nat → Int) (tg : Nat) : Prop := ∀ q, q < 81 → (gI σ 98 q = 0 ∨ gI σ 98 q = 1) ∧ (gI σ 98 q = 1 ↔ Chn m bd tg q)
theorem MnR.kept {σ σ' : ZSto} {m : Nat} {bd : Nat → Int} {tg : Nat} {W : Nat → Nat → Prop} (h : MnR σ m bd tg) (hf : Fr W σ σ') (hw : ∀ i, ¬ W 98 i) : MnR σ' m bd tg := fun q hq => by
  rw [hf.I (hw q)]; exact h q hq
/-- a point beside the hunted chain -/
def ToA (m : Nat) (bd : Nat → Int) (tg a : Nat) : Prop := ∃ o, Adj m a o ∧ Chn m bd tg o
section ZM
variable {X : ZX} {d n : Nat} {σ : ZSto}
theorem sm_mine (hn : 104 ≤ n) {m tg : Nat} {bd : Nat → Int} (h3 : 3 ≤ m) (h9 : m ≤ 9) (hm : gI σ 73 13 = (m : Int)) (h44 : gI σ 73 44 = (tg : Int)) (hw : WAll σ bd) (htm : tg < m * m) (ht : bd tg = 1 ∨ bd tg = 2) :
    ZkV X M_X10_mine (d + 3) n [.ref (zB X + 73)] σ (fun σ' => Fr (fun a i => (85 ≤ a ∧ a ≤ 87) ∨ a = 98) σ σ' ∧ MnR σ' m bd tg) := by
  have hN := sq_le h9
  refine w_X10_mine hn ?_
  rw [h44]
  refine (sm_flood hn h3 h9 hm (fun q hq => hw q (by omega)) htm (by omega) ⟨by omega, by omega⟩).mono ?_
  rintro v σ1 - ⟨hF, -⟩
  have := upto (N := 81) (Q := fun j τ => L_X10_mine_11 X (d + 2) n (zpV (fun σ' => Fr (fun a i => (85 ≤ a ∧ a ≤ 87) ∨ a = 98) σ σ' ∧ MnR σ' m bd tg)) (j : Int) τ) (I := fun j τ => Fr (fun a i => a = 98) σ1 τ ∧ ∀ i, i < j → gI τ 98 i = gI σ1 85 i) ?_ ?_ 0 σ1 (by omega) ⟨Fr.rf, fun i hi => by omega⟩
  · simpa using this
  · rintro τ ⟨f, b⟩
    refine b_X10_mine_11 hn ⟨fun _ => ⟨(hF.1.mono (fun a i q => by unfold fldW at q; omega)).tr (f.mono (fun a i q => Or.inr q)), fun q hq => ?_⟩, fun q => by omega⟩
    rw [b q hq]
    exact ⟨(hF.2.1 q hq).1, hF.2.2.1 q hq⟩
  · rintro j τ hj ⟨f, b⟩ ih
    refine b_X10_mine_11 hn ⟨fun q => by omega, fun _ => ?_⟩
    rw [show ((j : Int)).toNat = j by omega, f.I (show ¬ 85 = 98 by omega)]
    refine ⟨by omega, ⟨by omega, by omega⟩, ?_⟩
    have := ih (sI τ 98 j (gI σ1 85 j)) ⟨f.sI rfl, fun i hi => ?_⟩
    · simpa using this
    · by_cases e : i = j
      · rw [e, gI_same]
      · rw [gI_f e]; exact b i (by omega)
theorem tb90 (hn : 104 ≤ n) {m tg q : Nat} {bd : Nat → Int} {c x1 x3 : Int} {P : Int → ZSto → Prop} (h3 : 3 ≤ m) (h9 : m ≤ 9) (hm : gI σ 73 13 = (m : Int)) (hw : WAll σ bd) (hM : MnR σ m bd tg) (ht : bd tg = c) (hc : c = 1 ∨ c = 2) (hq : q < m * m)
    (hP : ∀ x5 : Int, ((x5 = 1 ∧ ToA m bd tg q) ∨ (x5 = 0 ∧ ¬ ToA m bd tg q)) → L_X10_takesBeside_55 X (d + 1) n (zpZ P) x1 c x3 x5 ((q : Int) + 1) σ) :
    L_X10_takesBeside_90 X (d + 1) n (zpZ P) x1 c x3 0 (q : Int) 0 σ := by
  have hN := sq_le h9
  have rq : R32 ((q : Int) + 1) := ⟨by omega, by omega⟩
  have := upto (N := 4) (Q := fun j τ => L_X10_takesBeside_90 X (d + 1) n (zpZ P) x1 c x3 0 (q : Int) (j : Int) τ) (I := fun j τ => σ = τ ∧ ∀ dd, dd < j → ∀ o : Nat, nbM m q dd = (o : Int) → ¬ Chn m bd tg o) ?_ ?_ 0 σ (by omega) ⟨rfl, fun dd hd => by omega⟩
  · simpa using this
  · rintro _ ⟨rfl, b⟩
    refine b_X10_takesBeside_90 hn ⟨fun _ => ⟨rq, hP 0 (Or.inr ⟨rfl, fun y => ?_⟩)⟩, fun z => by omega⟩
    obtain ⟨o, y1, y2⟩ := y
    obtain ⟨dd, d1, d2⟩ := (nbM_adj (by omega) hq).mp y1
    exact b dd d1 o d2 y2
  · rintro j _ hj ⟨rfl, b⟩ ih
    have rj : R32 ((j : Int) + 1) := ⟨by omega, by omega⟩
    have next : (∀ o : Nat, nbM m q j = (o : Int) → ¬ Chn m bd tg o) → L_X10_takesBeside_90 X (d + 1) n (zpZ P) x1 c x3 0 (q : Int) ((j : Int) + 1) σ := by
      intro hno
      have := ih σ ⟨rfl, fun dd hd o ho => by
        by_cases e : dd = j
        · rw [e] at ho; exact hno o ho
        · exact b dd (by omega) o ho⟩
      simpa using this
    refine b_X10_takesBeside_90 hn ⟨fun z => by omega, fun _ => ⟨fun z => absurd rfl z, fun _ => (sm_beside hn h3 h9 hm hq hj).mono ?_⟩⟩
    rintro v _ - ⟨rfl, hv⟩
    refine ⟨fun z => ⟨rj, next (fun o ho => by omega)⟩, fun z => ?_⟩
    obtain ⟨o, hoN, ho⟩ : ∃ o : Nat, o < m * m ∧ nbM m q j = (o : Int) := by
      rcases nbM_in (by omega) hq hj with y | y
      · omega
      · exact y
    have hvo : v = (o : Int) := by rw [hv, ho]
    subst hvo
    have to : ((o : Int)).toNat = o := by omega
    refine w_X10_isOfTarget hn ⟨by omega, by omega⟩ ⟨by omega, by omega⟩ ?_
    rw [to, hw o (by omega)]
    have hMo := hM o (by omega)
    refine ⟨by omega, fun z1 => ⟨fun z2 => ⟨rj, next (fun o' ho' y => ?_)⟩, fun z2 => ⟨rj, ?_⟩⟩, fun z1 => ⟨fun _ => ⟨rj, next (fun o' ho' y => ?_)⟩, fun u => absurd rfl u⟩⟩
    · have : o' = o := by omega
      subst this
      have := hMo.2.mpr y
      omega
    · -- found
      have hto : ToA m bd tg q := ⟨o, (nbM_adj (by omega) hq).mpr ⟨j, hj, ho⟩, hMo.2.mp (by omega)⟩
      exact b_X10_takesBeside_90 hn ⟨fun _ => ⟨rq, hP 1 (Or.inl ⟨rfl, hto⟩)⟩, fun _ => ⟨fun _ => ⟨rq, hP 1 (Or.inl ⟨rfl, hto⟩)⟩, fun u => by omega⟩⟩
    · have : o' = o := by omega
      subst this
      exact z1 (by rw [y.col]; exact ht)
theorem tb55 (hn : 104 ≤ n) {m tg b : Nat} {bd : Nat → Int} {c x1 x3 : Int} {P : Int → ZSto → Prop} (h3 : 3 ≤ m) (h9 : m ≤ 9) (hm : gI σ 73 13 = (m : Int)) (hw : WAll σ bd) (hM : MnR σ m bd tg) (ht : bd tg = c) (hc : c = 1 ∨ c = 2) (hb : b < m * m) (h85 : ∀ q, q < 81 → (gI σ 85 q = 0 ∨ gI σ 85 q = 1) ∧ (gI σ 85 q = 1 ↔ Chn m bd b q))
    (hY : (∃ a, Chn m bd b a ∧ ToA m bd tg a) → P 1 σ) (hNo : (¬ ∃ a, Chn m bd b a ∧ ToA m bd tg a) → R32 (x3 + 1) ∧ L_X10_takesBeside_2 X (d + 1) n (zpZ P) x1 c (x3 + 1) σ) :
    L_X10_takesBeside_55 X (d + 1) n (zpZ P) x1 c x3 0 0 σ := by
  have hN := sq_le h9
  have mm : (m : Int) * (m : Int) = ((m * m : Nat) : Int) := by simp
  have yes : ∀ q : Nat, (∃ a, Chn m bd b a ∧ ToA m bd tg a) → L_X10_takesBeside_55 X (d + 1) n (zpZ P) x1 c x3 1 (q : Int) σ := by
    intro q hy
    refine b_X10_takesBeside_55 hn ?_
    rw [hm, mm]
    exact ⟨⟨by omega, by omega⟩, fun _ => ⟨fun u => by omega, fun _ => hY hy⟩, fun _ => ⟨fun _ => ⟨fun u => by omega, fun _ => hY hy⟩, fun u => by omega⟩⟩
  have := upto (N := m * m) (Q := fun j τ => L_X10_takesBeside_55 X (d + 1) n (zpZ P) x1 c x3 0 (j : Int) τ) (I := fun j τ => σ = τ ∧ ∀ a, a < j → Chn m bd b a → ¬ ToA m bd tg a) ?_ ?_ 0 σ (by omega) ⟨rfl, fun dd hd => by omega⟩
  · simpa using this
  · rintro _ ⟨rfl, hI⟩
    refine b_X10_takesBeside_55 hn ?_
    rw [hm, mm]
    refine ⟨⟨by omega, by omega⟩, fun _ => ⟨fun _ => hNo (fun y => ?_), fun u => absurd rfl u⟩, fun u => by omega⟩
    obtain ⟨a, y1, y2⟩ := y
    exact hI a (y1.lt hb) y1 y2
  · rintro j _ hj ⟨rfl, hI⟩ ih
    have rj : R32 ((j : Int) + 1) := ⟨by omega, by omega⟩
    have next : ¬ (Chn m bd b j ∧ ToA m bd tg j) → L_X10_takesBeside_55 X (d + 1) n (zpZ P) x1 c x3 0 ((j : Int) + 1) σ := by
      intro hno
      have := ih σ ⟨rfl, fun a ha y1 y2 => by
        by_cases e : a = j
        · rw [e] at y1 y2; exact hno ⟨y1, y2⟩
        · exact hI a (by omega) y1 y2⟩
      simpa using this
    refine b_X10_takesBeside_55 hn ?_
    rw [hm, mm, show ((j : Int)).toNat = j by omega]
    have h8 := h85 j (by omega)
    refine ⟨⟨by omega, by omega⟩, fun u => by omega, fun _ => ⟨fun u => absurd rfl u, fun _ => ⟨by omega, fun z => ?_, fun z => ⟨rj, next (fun y => by have := h8.2.mpr y.1; omega)⟩⟩⟩⟩
    refine tb90 hn h3 h9 hm hw hM ht hc hj (fun x5 hx => ?_)
    rcases hx with ⟨rfl, hx⟩ | ⟨rfl, hx⟩
    · have := yes (j + 1) ⟨j, h8.2.mp (by omega), hx⟩
      simpa using this
    · exact next (fun y => hx y.2)
theorem sm_takesBeside (hn : 104 ≤ n) {m tg p : Nat} {bd : Nat → Int} {c : Int} (h3 : 3 ≤ m) (h9 : m ≤ 9) (hm : gI σ 73 13 = (m : Int)) (hw : WAll σ bd) (hM : MnR σ m bd tg) (ht : bd tg = c) (htm : tg < m * m) (hc : c = 1 ∨ c = 2) (hp : p < m * m) (hp0 : bd p = 0) :
    ZkZ X M_X10_takesBeside (d + 3) n [.ref (zB X + 73), iV (p : Int), iV c] σ (fun v σ' => Fr fldW σ σ' ∧ ((v = 1 ∧ Rsc m bd c tg p) ∨ (v = 0 ∧ ¬ Rsc m bd c tg p))) := by
  have hN := sq_le h9
  refine w_X10_takesBeside hn ⟨by omega, by omega⟩ ⟨by omega, by omega⟩ ?_
  have := upto (N := 4) (Q := fun j τ => L_X10_takesBeside_2 X (d + 2) n (zpZ (fun v σ' => Fr fldW σ σ' ∧ ((v = 1 ∧ Rsc m bd c tg p) ∨ (v = 0 ∧ ¬ Rsc m bd c tg p)))) (p : Int) c (j : Int) τ) (I := fun j τ => Fr fldW σ τ ∧ ∀ dd, dd < j → ∀ b : Nat, nbM m p dd = (b : Int) → ¬ (bd b = 3 - c ∧ cnt (Lib m bd b) (m * m) = 1 ∧ ∃ a, Chn m bd b a ∧ ToA m bd tg a)) ?_ ?_ 0 σ (by omega) ⟨Fr.rf, fun dd hd => by omega⟩
  · simpa using this
  · rintro τ ⟨f, hI⟩
    refine b_X10_takesBeside_2 hn ⟨fun _ => ⟨f, Or.inr ⟨rfl, fun y => ?_⟩⟩, fun u => by omega⟩
    obtain ⟨_, b, b1, b2, b3, a, o, b4, b5, b6⟩ := (Rsc_iff hc hp ht htm).mp y
    obtain ⟨dd, d1, d2⟩ := (nbM_adj (by omega) hp).mp b1
    exact hI dd d1 b d2 ⟨b2, b3, a, b4, o, b5, b6⟩
  · rintro j τ hj ⟨f, hI⟩ ih
    have rj : R32 ((j : Int) + 1) := ⟨by omega, by omega⟩
    have next : ∀ τ', Fr fldW σ τ' → (∀ b : Nat, nbM m p j = (b : Int) → ¬ (bd b = 3 - c ∧ cnt (Lib m bd b) (m * m) = 1 ∧ ∃ a, Chn m bd b a ∧ ToA m bd tg a)) → R32 ((j : Int) + 1) ∧ L_X10_takesBeside_2 X (d + 2) n (zpZ (fun v σ' => Fr fldW σ σ' ∧ ((v = 1 ∧ Rsc m bd c tg p) ∨ (v = 0 ∧ ¬ Rsc m bd c tg p)))) (p : Int) c ((j : Int) + 1) τ' := by
      intro τ' f' hno
      have := ih τ' ⟨f', fun dd hd b hb => by
        by_cases e : dd = j
        · rw [e] at hb; exact hno b hb
        · exact hI dd (by omega) b hb⟩
      exact ⟨rj, by simpa using this⟩
    have hm' : gI τ 73 13 = (m : Int) := by rw [f.I (by unfold fldW; omega)]; exact hm
    refine b_X10_takesBeside_2 hn ⟨fun u => by omega, fun _ => (sm_beside hn h3 h9 hm' hp hj).mono ?_⟩
    rintro v _ - ⟨rfl, hv⟩
    refine ⟨fun z => next τ f (fun b hb => by omega), fun z => ?_⟩
    obtain ⟨b, hbN, hb⟩ : ∃ b : Nat, b < m * m ∧ nbM m p j = (b : Int) := by
      rcases nbM_in (by omega) hp hj with y | y
      · omega
      · exact y
    have hvb : v = (b : Int) := by rw [hv, hb]
    subst hvb
    have w' := hw.kept f (fun i => by unfold fldW; omega)
    rw [show ((b : Int)).toNat = b by omega, w' b (by omega)]
    refine ⟨by omega, ⟨by omega, by omega⟩, fun z1 => ?_, fun z1 => next τ f (fun b' hb' y => ?_)⟩
    · refine (sm_flood hn h3 h9 hm' (fun q hq => w' q (by omega)) hbN (by omega) ⟨by omega, by omega⟩).mono ?_
      rintro v2 σ2 - ⟨hF, e2⟩
      have f2 := f.tr hF.1
      refine ⟨fun z2 => ?_, fun z2 => next σ2 f2 (fun b' hb' y => ?_)⟩
      · refine tb55 hn h3 h9 (by rw [f2.I (by unfold fldW; omega)]; exact hm) (hw.kept f2 (fun i => by unfold fldW; omega)) (hM.kept f2 (fun i => by unfold fldW; omega)) ht hc hbN (fun q hq => ⟨(hF.2.1 q hq).1, hF.2.2.1 q hq⟩) (fun y => ⟨f2, Or.inl ⟨rfl, ?_⟩⟩) (fun y => next σ2 f2 (fun b' hb' y2 => ?_))
        · obtain ⟨a, y1, o, y2, y3⟩ := y
          exact (Rsc_iff hc hp ht htm).mpr ⟨hp0, b, (nbM_adj (by omega) hp).mpr ⟨j, hj, hb⟩, z1, by omega, a, o, y1, y2, y3⟩
        · have : b' = b := by omega
          subst this
          exact y y2.2.2
      · have : b' = b := by omega
        subst this
        have := y.2.1
        omega
    · have : b' = b := by omega
      subst this
      exact z1 y.1
end ZM
