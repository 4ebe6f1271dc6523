/-- entries of a row that are as many as its points are all different -/
theorem grp_new {f : Nat → Nat} {N k : Nat} (hf : ∀ i, i < k → f i < N) (hc : cnt (fun q => ∃ i, i < k ∧ f i = q) N = k) : ∀ i, i < k → ¬ ∃ i', i' < i ∧ f i' = f i := by
  have up : ∀ i, i < k → cnt (fun q => ∃ i', i' < i + 1 ∧ f i' = q) N ≤ cnt (fun q => ∃ i', i' < i ∧ f i' = q) N + 1 := by
    intro i hi
    by_cases z : ∃ i', i' < i ∧ f i' = f i
    · have : cnt (fun q => ∃ i', i' < i + 1 ∧ f i' = q) N = cnt (fun q => ∃ i', i' < i ∧ f i' = q) N := cnt_congr (fun q _ => by
        constructor
        · rintro ⟨j, h1, h2⟩
          by_cases e : j = i
          · subst e
            obtain ⟨i', a, b⟩ := z
            exact ⟨i', a, b.trans h2⟩
          · exact ⟨j, by omega, h2⟩
        · rintro ⟨j, h1, h2⟩; exact ⟨j, by omega, h2⟩)
      omega
    · have := cnt_add (P := fun q => ∃ i', i' < i ∧ f i' = q) (Q := fun q => ∃ i', i' < i + 1 ∧ f i' = q) (hf i hi) z ⟨i, by omega, rfl⟩ (fun q _ hq => by
        constructor
        · rintro ⟨j, h1, h2⟩
          exact ⟨j, by
            have : j ≠ i := fun e => hq (by rw [← h2, e])
            omega, h2⟩
        · rintro ⟨j, h1, h2⟩; exact ⟨j, by omega, h2⟩)
      omega
  have le : ∀ j i, i + j = k → k ≤ cnt (fun q => ∃ i', i' < i ∧ f i' = q) N + j := by
    intro j
    induction j with
    | zero => intro i hi; have : i = k := by omega
              subst this; omega
    | succ j ih =>
      intro i hi
      have h1 := ih (i + 1) (by omega)
      have h2 := up i (by omega)
      omega
  have ge : ∀ i, i ≤ k → cnt (fun q => ∃ i', i' < i ∧ f i' = q) N ≤ i := by
    intro i
    induction i with
    | zero => intro _; rw [cnt_0 (fun q _ z => by obtain ⟨i', h, _⟩ := z; omega)]; exact Nat.le_refl 0
    | succ i ih => intro hi; have h1 := ih (by omega); have h2 := up i (by omega); omega
  intro i hi z
  have : cnt (fun q => ∃ i', i' < i + 1 ∧ f i' = q) N = cnt (fun q => ∃ i', i' < i ∧ f i' = q) N := cnt_congr (fun q _ => by
    constructor
    · rintro ⟨j, h1, h2⟩
      by_cases e : j = i
      · subst e
        obtain ⟨i', a, b⟩ := z
        exact ⟨i', a, b.trans h2⟩
      · exact ⟨j, by omega, h2⟩
    · rintro ⟨j, h1, h2⟩; exact ⟨j, by omega, h2⟩)
  have h1 := le (k - (i + 1)) (i + 1) (by omega)
  have h2 := ge i (by omega)
  omega
/-- the row that gather leaves -/
theorem Gth.row {σ0 σ : ZSto} {m s : Nat} {bd : Nat → Int} {S : Nat → Prop} (h : Gth σ0 σ 33 m bd S s) (hs : s < m * m) : ∃ f : Nat → Nat, (∀ i, i < cnt (Rch m S s) (m * m) → gI σ 36 i = (f i : Int) ∧ f i < m * m ∧ Rch m S s (f i)) ∧ (∀ q, Rch m S s q ↔ ∃ i, i < cnt (Rch m S s) (m * m) ∧ f i = q) ∧ ∀ i, i < cnt (Rch m S s) (m * m) → ¬ ∃ i', i' < i ∧ f i' = f i := by
  have h9 := h.2.2.2.2.1
  have g1 : ∀ i, i < cnt (Rch m S s) (m * m) → gI σ 36 i = ((gI σ 36 i).toNat : Int) ∧ (gI σ 36 i).toNat < m * m ∧ Rch m S s (gI σ 36 i).toNat := by
    intro i hi
    obtain ⟨q, q1, q2⟩ := h.2.2.2.2.2.1 i (by rw [h9]; omega)
    rw [show 33 + 3 = 36 by omega] at q1
    have e : (gI σ 36 i).toNat = q := by omega
    rw [e]
    exact ⟨q1, q2.lt hs, q2⟩
  have g2 : ∀ q, Rch m S s q ↔ ∃ i, i < cnt (Rch m S s) (m * m) ∧ (gI σ 36 i).toNat = q := by
    intro q
    constructor
    · intro hq
      obtain ⟨i, i1, i2⟩ := h.2.2.2.2.2.2.1 q hq
      rw [h9] at i1
      rw [show 33 + 3 = 36 by omega] at i2
      exact ⟨i, by omega, by omega⟩
    · rintro ⟨i, i1, i2⟩
      rw [← i2]; exact (g1 i i1).2.2
  refine ⟨fun i => (gI σ 36 i).toNat, g1, g2, grp_new (fun i hi => (g1 i hi).2.1) ?_⟩
  exact (cnt_congr (fun q _ => (g2 q).symm))
section ZL
variable {X : ZX} {d n : Nat} {σ : ZSto}
def ChO (σ : ZSto) (m : Nat) (bd : Nat → Int) (c : Int) : Prop := ∀ q, q < m * m → (Sc bd c q → ∀ h, HdS m (Sc bd c) h → Rch m (Sc bd c) h q → gI σ 54 q = (cnt (HdS m (Sc bd c)) h : Nat)) ∧ (¬ Sc bd c q → gI σ 54 q = -1)
def ncW (a i : Nat) : Prop := gatW 33 a i ∨ (a = 53 ∧ i = 8) ∨ a = 54
theorem sp_numberChains (hn : 73 ≤ n) {m : Nat} {bd : Nat → Int} {c : Int} (hB : BOk σ 33 m bd) (hc : c = 1 ∨ c = 2) (hg : gI σ 33 10 < 1999999000) :
    ZkV X M_X4_numberChains (d + 3) n [.ref (zB X + 53), iV c] σ (fun σ' => Fr ncW σ σ' ∧ BOk σ' 33 m bd ∧ gI σ' 33 10 ≤ gI σ 33 10 + 81 ∧ gI σ' 53 8 = (cnt (HdS m (Sc bd c)) (m * m) : Nat) ∧ ChO σ' m bd c) := by
  have hN := sq_le hB.1.2.1
  have hg0 := hB.2.2.2.1
  obtain ⟨g0, eg0⟩ : ∃ g0, g0 = gI σ 33 10 := ⟨_, rfl⟩
  refine w_X4_numberChains hn ⟨by omega, by omega⟩ (fun y1 hy1 => ?_)
  rw [← eg0] at hy1 hg hg0 ⊢
  subst hy1
  refine (sp_fillI hn (a := 54) (z := 81) (by omega) rfl ⟨by omega, by omega⟩).mono ?_
  rintro σ1 ⟨f1, z1⟩
  have F1 : Fr ncW σ σ1 := ((Fr.rf (W := ncW)).sI (by unfold ncW; omega)).tr (f1.mono (fun a i q => by unfold ncW; omega))
  have key := upto (N := m * m) (Q := fun p τ => L_X4_numberChains_23 X (d + 2) n (zpV (fun σ' => Fr ncW σ σ' ∧ BOk σ' 33 m bd ∧ gI σ' 33 10 ≤ y1 + 81 ∧ gI σ' 53 8 = (cnt (HdS m (Sc bd c)) (m * m) : Nat) ∧ ChO σ' m bd c)) c y1 (p : Int) τ) (I := fun p τ => Fr ncW σ τ ∧ BOk τ 33 m bd ∧ y1 ≤ gI τ 33 10 ∧ gI τ 33 10 ≤ y1 + p ∧ VisS τ 33 m (Sc bd c) y1 p ∧ gI τ 53 8 = (cnt (HdS m (Sc bd c)) p : Nat) ∧ ∀ q, q < m * m → ((∃ r, r < p ∧ Sc bd c r ∧ Rch m (Sc bd c) r q) → ∀ h, HdS m (Sc bd c) h → Rch m (Sc bd c) h q → gI τ 54 q = (cnt (HdS m (Sc bd c)) h : Nat)) ∧ ((¬ ∃ r, r < p ∧ Sc bd c r ∧ Rch m (Sc bd c) r q) → gI τ 54 q = -1)) ?_ ?_ 0 σ1 (by omega) ?_
  · simpa using key
  · rintro τ ⟨hf, hb, a1, a2, hv, h8, hq⟩
    refine b_X4_numberChains_23 hn ?_
    rw [hb.1.2.2.2.1]
    refine ⟨fun _ => ⟨hf, hb, by omega, h8, fun q hqm => ⟨fun hs h h1 h2 => (hq q hqm).1 ⟨q, hqm, hs, Rch.rf⟩ h h1 h2, fun hs => (hq q hqm).2 ?_⟩⟩, fun z => by omega⟩
    rintro ⟨r, r1, r2, r3⟩
    exact hs (r3.inS r2)
  · rintro p τ hp ⟨hf, hb, a1, a2, hv, h8, hq⟩ ih
    have hcl := heads_lt (S := Sc bd c) hB.1.2.1
    have hcl2 : cnt (HdS m (Sc bd c)) p ≤ cnt (HdS m (Sc bd c)) (m * m) := cnt_up (by omega)
    have rp : R32 ((p : Int) + 1) := ⟨by omega, by omega⟩
    have skip : (¬ Sc bd c p ∨ y1 < gI τ (33 + 4) p) → L_X4_numberChains_23 X (d + 2) n (zpV (fun σ' => Fr ncW σ σ' ∧ BOk σ' 33 m bd ∧ gI σ' 33 10 ≤ y1 + 81 ∧ gI σ' 53 8 = (cnt (HdS m (Sc bd c)) (m * m) : Nat) ∧ ChO σ' m bd c)) c y1 ((p : Int) + 1) τ := by
      intro hz
      have hv' := hv.skip hp hz
      have nh : ¬ HdS m (Sc bd c) p := by
        intro z
        rcases hz with w | w
        · exact w z.2.1
        · exact (HdS.iff hp z.2.1).mpr z ((hv p hp).mp w)
      have := ih τ ⟨hf, hb, a1, by omega, hv', by rw [cnt_n nh]; exact h8, fun q hqm => ?_⟩
      · simpa using this
      · rw [← hv' q hqm, hv q hqm]; exact hq q hqm
    refine b_X4_numberChains_23 hn ?_
    rw [hb.1.2.2.2.1, h8]
    refine ⟨fun z => by omega, fun _ => ⟨fun z => by omega, fun _ => (sp_contentAt hn (Or.inl rfl) hb.1 hb.2.2.1 hp).mono ?_⟩⟩
    rintro v _ - ⟨rfl, rfl⟩
    refine ⟨fun z => ⟨rp, skip (Or.inl z)⟩, fun z => (sp_gatheredSince hn (Or.inl rfl) hb.1 hp ⟨by omega, by omega⟩).mono ?_⟩
    rintro v _ - ⟨rfl, ⟨rfl, w⟩ | ⟨rfl, w⟩⟩
    · exact ⟨fun _ => ⟨rp, skip (Or.inr w)⟩, fun q => by omega⟩
    · refine ⟨fun q => absurd rfl q, fun _ => (sp_gatherChain hn (Or.inl rfl) hb hp (by omega) (by omega)).mono ?_⟩
      intro τ1 hG
      have eS : (fun x => bd x = bd p) = Sc bd c := by funext x; unfold Sc; rw [z]
      rw [eS] at hG
      have hs : Sc bd c p := z
      have nv : ¬ ∃ r, r < p ∧ Sc bd c r ∧ Rch m (Sc bd c) r p := fun y => w ((hv p hp).mpr y)
      have hd : HdS m (Sc bd c) p := (HdS.iff hp hs).mp nv
      obtain ⟨f, r1, r2, r3⟩ := hG.row hp
      have h9 : gI τ1 33 9 = (cnt (Rch m (Sc bd c) p) (m * m) : Nat) := hG.2.2.2.2.1
      have hkl := cnt_le (Rch m (Sc bd c) p) (m * m)
      have K1 : gI τ1 53 8 = (cnt (HdS m (Sc bd c)) p : Nat) := by rw [hG.1.I (by unfold gatW; omega)]; exact h8
      have inner := upto (N := cnt (Rch m (Sc bd c) p) (m * m)) (Q := fun i τ' => L_X4_numberChains_78 X (d + 2) n (zpV (fun σ' => Fr ncW σ σ' ∧ BOk σ' 33 m bd ∧ gI σ' 33 10 ≤ y1 + 81 ∧ gI σ' 53 8 = (cnt (HdS m (Sc bd c)) (m * m) : Nat) ∧ ChO σ' m bd c)) c y1 (p : Int) (i : Int) τ') (I := fun i τ' => Fr (fun a i => a = 54) τ1 τ' ∧ (∀ q, (∃ i', i' < i ∧ f i' = q) → gI τ' 54 q = (cnt (HdS m (Sc bd c)) p : Nat)) ∧ ∀ q, (¬ ∃ i', i' < i ∧ f i' = q) → gI τ' 54 q = gI τ1 54 q) ?_ ?_ 0 τ1 (by omega) ⟨Fr.rf, fun q y => by obtain ⟨i', h, _⟩ := y; omega, fun _ _ => rfl⟩
      · simpa using inner
      · rintro τ' ⟨f', b1, b2⟩
        refine b_X4_numberChains_78 hn ?_
        rw [f'.I (a := 33) (by omega), h9, f'.I (a := 53) (by omega), K1]
        refine ⟨fun _ => ⟨⟨by omega, by omega⟩, rp, ?_⟩, fun y => by omega⟩
        have F : Fr ncW σ (sI τ' 53 8 (((cnt (HdS m (Sc bd c)) p : Nat) : Int) + 1)) := ((hf.tr (hG.1.mono (W' := ncW) (fun a i y => Or.inl y))).tr (f'.mono (fun a i y => by unfold ncW; omega))).sI (by unfold ncW; omega)
        have F1 : Fr (fun a i => a = 54 ∨ (a = 53 ∧ i = 8)) τ1 (sI τ' 53 8 (((cnt (HdS m (Sc bd c)) p : Nat) : Int) + 1)) := (f'.mono (fun a i y => Or.inl y)).sI (Or.inr ⟨rfl, rfl⟩)
        have hv1 := hv.go (S := Sc bd c) hs (by omega) hG
        have e10 : gI (sI τ' 53 8 (((cnt (HdS m (Sc bd c)) p : Nat) : Int) + 1)) 33 10 = gI τ 33 10 + 1 := by rw [F1.I (by omega)]; exact hG.2.1
        have hvf : VisS (sI τ' 53 8 (((cnt (HdS m (Sc bd c)) p : Nat) : Int) + 1)) 33 m (Sc bd c) y1 (p + 1) := fun r hr => by rw [F1.I (by omega)]; exact hv1 r hr
        have := ih _ ⟨F, (hG.ok hb).kept F1 (fun a i y => by unfold brdW at y; omega), by omega, by omega, hvf, by rw [gI_same, cnt_s hd]; simp, fun q hqm => ?_⟩
        · simpa using this
        · have o54 : gI τ1 54 q = gI τ 54 q := hG.1.I (by unfold gatW; omega)
          have split : (∃ r, r < p + 1 ∧ Sc bd c r ∧ Rch m (Sc bd c) r q) ↔ ((∃ r, r < p ∧ Sc bd c r ∧ Rch m (Sc bd c) r q) ∨ Rch m (Sc bd c) p q) := by
            constructor
            · rintro ⟨r, a, b, e⟩
              by_cases y : r = p
              · subst y; exact Or.inr e
              · exact Or.inl ⟨r, by omega, b, e⟩
            · rintro (⟨r, a, b, e⟩ | e)
              · exact ⟨r, by omega, b, e⟩
              · exact ⟨p, by omega, hs, e⟩
          rw [gI_c (by omega)]
          by_cases y : Rch m (Sc bd c) p q
          · refine ⟨fun _ h h1 h2 => ?_, fun y2 => absurd (split.mpr (Or.inr y)) y2⟩
            rw [b1 q ((r2 q).mp y), HdS.uniq h1 hd h2 y]
          · rw [b2 q (fun y2 => y ((r2 q).mpr y2)), o54]
            refine ⟨fun y2 => (hq q hqm).1 ((split.mp y2).resolve_right y), fun y2 => (hq q hqm).2 (fun y3 => y2 (split.mpr (Or.inl y3)))⟩
      · rintro i τ' hi ⟨f', b1, b2⟩ ih2
        have ti : ((i : Int)).toNat = i := by omega
        obtain ⟨e1, e2, e3⟩ := r1 i hi
        have tf : ((f i : Nat) : Int).toNat = f i := by omega
        refine b_X4_numberChains_78 hn ?_
        rw [f'.I (a := 33) (by omega), h9, f'.I (a := 53) (by omega), K1, ti, f'.I (a := 36) (by omega), e1, tf]
        refine ⟨fun y => by omega, fun _ => ⟨fun y => by omega, fun _ => ⟨by omega, by omega, ⟨by omega, by omega⟩, ?_⟩⟩⟩
        have := ih2 (sI τ' 54 (f i) (cnt (HdS m (Sc bd c)) p : Nat)) ⟨f'.sI rfl, fun q hq2 => ?_, fun q hq2 => ?_⟩
        · simpa using this
        · by_cases y : q = f i
          · subst y; exact gI_same _ _ _ _
          · rw [gI_f y]
            obtain ⟨i', i1, i2⟩ := hq2
            exact b1 q ⟨i', by
              have : i' ≠ i := fun e => y (by rw [← i2, e])
              omega, i2⟩
        · have y : q ≠ f i := fun e => hq2 ⟨i, by omega, e.symm⟩
          rw [gI_f y]
          exact b2 q (fun ⟨i', i1, i2⟩ => hq2 ⟨i', by omega, i2⟩)
  · have o10 : gI σ1 33 10 = y1 := by rw [f1.I (by omega), gI_c (by omega)]; exact eg0.symm
    have hb1 : BOk σ1 33 m bd := (hB.kept (Fr.rf.sI (a := 53) (i := 8) (W := fun a i => a = 53 ∧ i = 8) ⟨rfl, rfl⟩) (fun a i q => by unfold brdW at q; omega)).kept f1 (fun a i q => by unfold brdW at q; omega)
    refine ⟨F1, hb1, by omega, by omega, by have := VisS.start (S := Sc bd c) (m := m) hb1.2.2.2; rw [o10] at this; exact this, by rw [f1.I (by omega), gI_same]; rfl, fun q hqm => ⟨fun y => by obtain ⟨r, h, _⟩ := y; omega, fun _ => z1 q (by omega)⟩⟩
/-- numbers of the chains beside p -/
def TB (m : Nat) (bd : Nat → Int) (c : Int) (p i : Nat) : Prop := ∃ b h, Adj m p b ∧ Sc bd c b ∧ HdS m (Sc bd c) h ∧ Rch m (Sc bd c) h b ∧ cnt (HdS m (Sc bd c)) h = i
theorem sp_chainsBeside (hn : 73 ≤ n) {m p : Nat} {bd : Nat → Int} {c : Int} (hB : BGeo σ 33 m) (hC : ChO σ m bd c) (hp : p < m * m) :
    ZkL X M_X4_chainsBeside (d + 2) n [.ref (zB X + 53), iV (p : Int)] σ (fun v σ' => σ = σ' ∧ ∀ i, i < 64 → (lB v i = true ↔ TB m bd c p i)) := by
  have hN := sq_le hB.2.1
  have hcl := heads_lt (S := Sc bd c) hB.2.1
  refine w_X4_chainsBeside hn ⟨by omega, by omega⟩ ?_
  have key : ∀ (w j : Nat) (l : Int64), 4 - j ≤ w → j ≤ 4 → (∀ i, i < 64 → (lB l i = true ↔ ∃ dd, dd < j ∧ ∃ b : Nat, nbC m p dd = (b : Int) ∧ gI σ 54 b = (i : Int))) → L_X4_chainsBeside_5 X (d + 1) n (zpL (fun v σ' => σ = σ' ∧ ∀ i, i < 64 → (lB v i = true ↔ TB m bd c p i))) (p : Int) l (j : Int) σ := by
    have done : ∀ l : Int64, (∀ i, i < 64 → (lB l i = true ↔ ∃ dd, dd < 4 ∧ ∃ b : Nat, nbC m p dd = (b : Int) ∧ gI σ 54 b = (i : Int))) → ∀ i, i < 64 → (lB l i = true ↔ TB m bd c p i) := by
      intro l hl i hi
      rw [hl i hi]
      constructor
      · rintro ⟨dd, h1, b, h2, h3⟩
        have ha : Adj m p b := (nbC_adj (by have := hB.1; omega) hp).mpr ⟨dd, h1, h2⟩
        have hs : Sc bd c b := Classical.byContradiction (fun z => by have := (hC b ha.2.1).2 z; omega)
        obtain ⟨h, h4, h5⟩ := HdS.ex b ha.2.1 hs
        have := (hC b ha.2.1).1 hs h h4 h5
        exact ⟨b, h, ha, hs, h4, h5, by omega⟩
      · rintro ⟨b, h, ha, hs, h4, h5, h6⟩
        obtain ⟨dd, h1, h2⟩ := (nbC_adj (by have := hB.1; omega) hp).mp ha
        exact ⟨dd, h1, b, h2, by rw [(hC b ha.2.1).1 hs h h4 h5, h6]⟩
    intro w
    induction w with
    | zero =>
      intro j l hw hj hl
      have : j = 4 := by omega
      subst this
      exact b_X4_chainsBeside_5 hn ⟨fun _ => ⟨rfl, done l hl⟩, fun q => by omega⟩
    | succ w ih =>
      intro j l hw hj hl
      by_cases e4 : j = 4
      · subst e4
        exact b_X4_chainsBeside_5 hn ⟨fun _ => ⟨rfl, done l hl⟩, fun q => by omega⟩
      have rj : R32 ((j : Int) + 1) := ⟨by omega, by omega⟩
      have next : ∀ l' : Int64, (∀ i, i < 64 → (lB l' i = true ↔ (lB l i = true ∨ ∃ b : Nat, nbC m p j = (b : Int) ∧ gI σ 54 b = (i : Int)))) → L_X4_chainsBeside_5 X (d + 1) n (zpL (fun v σ' => σ = σ' ∧ ∀ i, i < 64 → (lB v i = true ↔ TB m bd c p i))) (p : Int) l' ((j : Int) + 1) σ := by
        intro l' hl'
        have := ih (j + 1) l' (by omega) (by omega) (fun i hi => ?_)
        · simpa using this
        · rw [hl' i hi, hl i hi]
          constructor
          · rintro (⟨dd, h1, h2⟩ | h2)
            · exact ⟨dd, by omega, h2⟩
            · exact ⟨j, by omega, h2⟩
          · rintro ⟨dd, h1, h2⟩
            by_cases e : dd = j
            · subst e; exact Or.inr h2
            · exact Or.inl ⟨dd, by omega, h2⟩
      refine b_X4_chainsBeside_5 hn ⟨fun q => by omega, fun _ => (sp_neighbour hn (Or.inl rfl) hB hp (show j < 4 by omega)).mono ?_⟩
      rintro v _ - ⟨rfl, hv⟩
      refine ⟨fun q => ⟨rj, next l (fun i hi => ⟨Or.inl, fun y => y.elim id (fun ⟨b, h1, _⟩ => by omega)⟩)⟩, fun q => ?_⟩
      obtain ⟨b, hbN, hb⟩ : ∃ q : Nat, q < m * m ∧ nbC m p j = (q : Int) := by
        rcases nbC_in (by have := hB.1; omega) hp (show j < 4 by omega) with h | h
        · omega
        · exact h
      have hvb : v = (b : Int) := by rw [hv, hb]
      subst hvb
      have tb : ((b : Int)).toNat = b := by omega
      rw [tb]
      refine ⟨by omega, fun q2 => ⟨rj, next l (fun i hi => ⟨Or.inl, fun y => y.elim id (fun ⟨b', h1, h2⟩ => ?_)⟩)⟩, fun q2 => ⟨rj, ?_⟩⟩
      · have : b' = b := by omega
        subst this; omega
      · have hs : Sc bd c b := Classical.byContradiction (fun z => q2 ((hC b hbN).2 z))
        obtain ⟨h, h4, h5⟩ := HdS.ex b hbN hs
        have e := (hC b hbN).1 hs h h4 h5
        have hlt := ix_lt (H := HdS m (Sc bd c)) h4.1 h4
        rw [e]
        refine next _ (fun i hi => ?_)
        rw [lB_or, lB_one (by omega) hi]
        constructor
        · intro y
          rcases Bool.or_eq_true _ _ |>.mp y with y | y
          · exact Or.inl y
          · have := of_decide_eq_true y
            exact Or.inr ⟨b, hb, by rw [e, this]⟩
        · rintro (y | ⟨b', h1, h2⟩)
          · rw [y]; rfl
          · have : b' = b := by omega
            subst this
            have : cnt (HdS m (Sc bd c)) h = i := by omega
            rw [decide_eq_true this, Bool.or_true]
  have := key 4 0 0 (by omega) (by omega) (fun i hi => by rw [lB_0]; exact ⟨fun y => by simp at y, fun ⟨dd, h, _⟩ => by omega⟩)
  simpa using this
end ZL
