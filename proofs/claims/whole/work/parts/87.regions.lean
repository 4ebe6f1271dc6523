/-! ===== the reference's regions ===== -/
def RgM (σ : ZSto) (m : Nat) (bd : Nat → Int) (c : Int) : Prop := ∀ q, (q < m * m → (Sr bd c q → ∀ h, HdS m (Sr bd c) h → Rch m (Sr bd c) h q → gI σ 93 q = (h : Int)) ∧ (¬ Sr bd c q → gI σ 93 q = -1) ∧ (Sc bd c q → ∀ h, HdS m (Sc bd c) h → Rch m (Sc bd c) h q → gI σ 94 q = (h : Int)) ∧ (¬ Sc bd c q → gI σ 94 q = -1)) ∧ (m * m ≤ q → q < 81 → gI σ 93 q = -1 ∧ gI σ 94 q = -1)
def Seen (m : Nat) (S : Nat → Prop) (p q : Nat) : Prop := ∃ r, r < p ∧ S r ∧ Rch m S r q
theorem Seen.s {m p q : Nat} {S : Nat → Prop} (hs : S p) : Seen m S (p + 1) q ↔ (Seen m S p q ∨ Rch m S p q) := by
  constructor
  · rintro ⟨r, a, b, e⟩
    by_cases y : r = p
    · subst y; exact Or.inr e
    · exact Or.inl ⟨r, by omega, b, e⟩
  · rintro (⟨r, a, b, e⟩ | e)
    · exact ⟨r, by omega, b, e⟩
    · exact ⟨p, by omega, hs, e⟩
theorem Seen.n {m p q : Nat} {S : Nat → Prop} (hs : ¬ S p ∨ Seen m S p p) : Seen m S (p + 1) q ↔ Seen m S p q := by
  constructor
  · rintro ⟨r, a, b, e⟩
    by_cases y : r = p
    · subst y
      rcases hs with z | ⟨t, t1, t2, t3⟩
      · exact absurd b z
      · exact ⟨t, t1, t2, t3.tr e⟩
    · exact ⟨r, by omega, b, e⟩
  · rintro ⟨r, a, b, e⟩; exact ⟨r, by omega, b, e⟩
/-- so far: points of parts met have their head, the others -1 -/
def RgI (σ : ZSto) (m : Nat) (S : Nat → Prop) (a p : Nat) : Prop := (∀ q, q < m * m → (Seen m S p q → ∀ h, HdS m S h → Rch m S h q → gI σ a q = (h : Int)) ∧ (¬ Seen m S p q → gI σ a q = -1)) ∧ ∀ q, m * m ≤ q → q < 81 → gI σ a q = -1
def rgW (a i : Nat) : Prop := (85 ≤ a ∧ a ≤ 87) ∨ a = 93 ∨ a = 94
section ZL
variable {X : ZX} {d n : Nat}
/-- the flood of a region -/
def FRI (σ0 σ : ZSto) (m : Nat) (S : Nat → Prop) (p w : Nat) : Prop :=
  Fr (fun a i => a = 87 ∨ a = 93) σ0 σ ∧ (∀ q, q < 81 → gI σ 93 q = (p : Int) → q < m * m ∧ Rch m S p q) ∧ gI σ 93 p = (p : Int) ∧ (∀ q, q < 81 → ¬ gI σ 93 q = (p : Int) → gI σ 93 q = gI σ0 93 q) ∧
  w ≤ cnt (fun q => gI σ 93 q = (p : Int)) (m * m) ∧ (∀ i, i < w → ∃ q : Nat, gI σ 87 i = (q : Int) ∧ q < m * m ∧ gI σ 93 q = (p : Int))
def FRD (σ : ZSto) (m : Nat) (S : Nat → Prop) (p a k : Nat) : Prop := ∀ dd, dd < k → ∀ b : Nat, nbM m a dd = (b : Int) → S b → gI σ 93 b = (p : Int)
def FRA (σ : ZSto) (m : Nat) (S : Nat → Prop) (p w : Nat) (cur : Option Nat) : Prop := ∀ a, a < m * m → gI σ 93 a = (p : Int) → (∃ i, i < w ∧ gI σ 87 i = (a : Int)) ∨ FRD σ m S p a 4 ∨ cur = some a
theorem reg_loop (hn : 104 ≤ n) {m p : Nat} {bd : Nat → Int} {c : Int} {σ0 : ZSto} {P : ZSto → Prop} (h3 : 3 ≤ m) (h9 : m ≤ 9) (hm : gI σ0 73 13 = (m : Int)) (hw0 : WAll σ0 bd) (hp : p < m * m) (hsp : Sr bd c p) (hneg : ∀ q, Rch m (Sr bd c) p q → gI σ0 93 q = -1 ∨ q = p) 
    (hP : ∀ (σ : ZSto), FRI σ0 σ m (Sr bd c) p 0 → FRA σ m (Sr bd c) p 0 none → R32 ((p : Int) + 1) ∧ L_X10_regions_30 X (d + 1) n (zpV P) c ((p : Int) + 1) σ) :
    ∀ (z : Nat), (∀ (σ : ZSto) (w : Nat), FRI σ0 σ m (Sr bd c) p w → FRA σ m (Sr bd c) p w none → 10 * (2 * (81 - cnt (fun q => gI σ 93 q = (p : Int)) (m * m)) + w) ≤ z → L_X10_regions_147 X (d + 1) n (zpV P) c (p : Int) (w : Int) σ) ∧
      (∀ (σ : ZSto) (w a j : Nat), FRI σ0 σ m (Sr bd c) p w → a < m * m → gI σ 93 a = (p : Int) → j ≤ 4 → FRD σ m (Sr bd c) p a j → FRA σ m (Sr bd c) p w (some a) → 10 * (2 * (81 - cnt (fun q => gI σ 93 q = (p : Int)) (m * m)) + w) + (5 - j) ≤ z → L_X10_regions_165 X (d + 1) n (zpV P) c (p : Int) (w : Int) (a : Int) (j : Int) σ) := by
  have hN : m * m ≤ 81 := sq_le h9
  intro z
  induction z with
  | zero =>
    refine ⟨fun σ w hI hA hz => ?_, fun σ w a j hI ha haV hj hD hA hz => by omega⟩
    have hw : w = 0 := by omega
    subst hw
    exact b_X10_regions_147 hn ⟨fun _ => hP σ hI hA, fun q => by omega⟩
  | succ z ih =>
    refine ⟨fun σ w hI hA hz => ?_, fun σ w a j hI ha haV hj hD hA hz => ?_⟩
    · have hwl := hI.2.2.2.2.1
      have hcn := cnt_le (fun q => gI σ 93 q = (p : Int)) (m * m)
      refine b_X10_regions_147 hn ⟨fun q => ?_, fun q => ⟨by omega, fun y hy => ⟨⟨by omega, by omega⟩, ?_⟩⟩⟩
      · have hw : w = 0 := by omega
        subst hw
        exact hP σ hI hA
      · obtain ⟨w', rfl⟩ : ∃ w', w = w' + 1 := ⟨w - 1, by omega⟩
        have tw : (((w' + 1 : Nat) : Int) + (-1)).toNat = w' := by omega
        have tw2 : ((w' + 1 : Nat) : Int) + (-1) = (w' : Int) := by omega
        rw [tw] at hy
        obtain ⟨a, ha1, ha2, ha3⟩ := hI.2.2.2.2.2 w' (by omega)
        rw [tw2, hy, ha1]
        refine ih.2 σ w' a 0 ?_ ha2 ha3 (by omega) (fun dd hd => by omega) ?_ (by omega)
        · obtain ⟨i1, i2, i3, i4, i5, i6⟩ := hI
          exact ⟨i1, i2, i3, i4, by omega, fun i hi => i6 i (by omega)⟩
        · intro b hb hbV
          rcases hA b hb hbV with ⟨i, i1, i2⟩ | h | h
          · by_cases e : i = w'
            · subst e
              rw [ha1] at i2
              exact Or.inr (Or.inr (by congr 1; omega))
            · exact Or.inl ⟨i, by omega, i2⟩
          · exact Or.inr (Or.inl h)
          · cases h
    · refine b_X10_regions_165 hn ⟨fun q => ?_, fun q => ?_⟩
      · have ej : j = 4 := by omega
        subst ej
        refine ih.1 σ w hI (fun b hb hbV => ?_) (by omega)
        rcases hA b hb hbV with h | h | h
        · exact Or.inl h
        · exact Or.inr (Or.inl h)
        · cases h
          exact Or.inr (Or.inl hD)
      · have hm1 : gI σ 73 13 = (m : Int) := by rw [hI.1.I (by omega)]; exact hm
        have hw1 : WAll σ bd := fun q hq => by rw [hI.1.I (by omega)]; exact hw0 q hq
        refine (sm_beside hn h3 h9 hm1 ha (show j < 4 by omega)).mono ?_
        rintro v _ - ⟨rfl, hv⟩
        have hj1 : R32 ((j : Int) + 1) := ⟨by omega, by omega⟩
        have next : ∀ (σ' : ZSto) (w' : Nat), FRI σ0 σ' m (Sr bd c) p w' → (∀ q, gI σ 93 q = (p : Int) → gI σ' 93 q = (p : Int)) → FRA σ' m (Sr bd c) p w' (some a) → (∀ b : Nat, nbM m a j = (b : Int) → Sr bd c b → gI σ' 93 b = (p : Int)) → 2 * (81 - cnt (fun q => gI σ' 93 q = (p : Int)) (m * m)) + w' ≤ 2 * (81 - cnt (fun q => gI σ 93 q = (p : Int)) (m * m)) + w → L_X10_regions_165 X (d + 1) n (zpV P) c (p : Int) (w' : Int) (a : Int) ((j : Int) + 1) σ' := by
          intro σ' w' hI' k5 hA' hb' hz'
          have := ih.2 σ' w' a (j + 1) hI' ha (k5 a haV) (by omega) (fun dd hd b hb hS => ?_) hA' (by omega)
          · simpa using this
          · by_cases e : dd = j
            · subst e; exact hb' b hb hS
            · exact k5 b (hD dd (by omega) b hb hS)
        have skip : (∀ b : Nat, nbM m a j = (b : Int) → Sr bd c b → gI σ 93 b = (p : Int)) → L_X10_regions_165 X (d + 1) n (zpV P) c (p : Int) (w : Int) (a : Int) ((j : Int) + 1) σ := fun hb => next σ w hI (fun _ h => h) hA hb (Nat.le_refl _)
        refine ⟨fun hv0 => ⟨hj1, skip (fun b hb => by omega)⟩, fun hv0 => ?_⟩
        obtain ⟨b, hbN, hb⟩ : ∃ q : Nat, q < m * m ∧ nbM m a j = (q : Int) := by
          rcases nbM_in (by omega) ha (show j < 4 by omega) with h | h
          · omega
          · exact h
        have hvb : v = (b : Int) := by rw [hv, hb]
        subst hvb
        have tb : ((b : Int)).toNat = b := by omega
        have hadj : Adj m a b := (nbM_adj (by omega) ha).mpr ⟨j, by omega, hb⟩
        have haC := (hI.2.1 a (by omega) haV).2
        have uniq : ∀ b' : Nat, nbM m a j = (b' : Int) → b' = b := fun b' h => by omega
        rw [tb, hw1 b (by omega)]
        refine ⟨by omega, fun q1 => ⟨hj1, skip (fun b' hb' hS => ?_)⟩, fun q1 => ?_⟩
        · rw [uniq b' hb'] at hS; exact absurd q1 hS
        · have hSb : Sr bd c b := q1
          have hRb : Rch m (Sr bd c) p b := haC.step hadj hSb
          refine ⟨fun q2 => ?_, fun q2 => ⟨hj1, skip (fun b' hb' hS => ?_)⟩⟩
          · have hnb : ¬ gI σ 93 b = (p : Int) := by omega
            have hcnl : cnt (fun q => gI σ 93 q = (p : Int)) (m * m) < m * m := cnt_lt hbN hnb
            have hw := hI.2.2.2.2.1
            have tw : ((w : Int)).toNat = w := by omega
            rw [tw]
            refine ⟨by omega, ⟨by omega, by omega⟩, hj1, ?_⟩
            obtain ⟨σ', eσ⟩ : ∃ σ', σ' = sI (sI σ 93 b (p : Int)) 87 w (b : Int) := ⟨_, rfl⟩
            have e5 : ∀ q, gI σ' 93 q = if q = b then (p : Int) else gI σ 93 q := by intro q; rw [eσ]; simp [gI_if]
            have e7 : ∀ q, gI σ' 87 q = if q = w then (b : Int) else gI σ 87 q := by intro q; rw [eσ]; simp [gI_if]
            have e5' : ∀ q, gI σ' 93 q = (p : Int) ↔ (gI σ 93 q = (p : Int) ∨ q = b) := by
              intro q; rw [e5]
              by_cases h : q = b
              · simp [h]
              · simp [h]
            have hcnt : cnt (fun q => gI σ' 93 q = (p : Int)) (m * m) = cnt (fun q => gI σ 93 q = (p : Int)) (m * m) + 1 := cnt_add hbN hnb ((e5' b).mpr (Or.inr rfl)) (fun i _ hi => by rw [e5']; simp [hi])
            rw [← eσ]
            obtain ⟨i1, i2, i3, i4, i5, i6⟩ := hI
            have hI' : FRI σ0 σ' m (Sr bd c) p (w + 1) := by
              refine ⟨by rw [eσ]; exact (i1.sI (Or.inr rfl)).sI (Or.inl rfl), fun q hq hqV => ?_, (e5' p).mpr (Or.inl i3), fun q hq hqV => ?_, by omega, fun i hi => ?_⟩
              · rcases (e5' q).mp hqV with h | h
                · exact i2 q hq h
                · rw [h]; exact ⟨hbN, hRb⟩
              · have h1 : ¬ (gI σ 93 q = (p : Int) ∨ q = b) := fun y => hqV ((e5' q).mpr y)
                rw [e5, if_neg (fun y => h1 (Or.inr y))]
                exact i4 q hq (fun y => h1 (Or.inl y))
              · rw [e7]
                by_cases h : i = w
                · rw [if_pos h]; exact ⟨b, rfl, hbN, (e5' b).mpr (Or.inr rfl)⟩
                · rw [if_neg h]
                  obtain ⟨q, k1, k2, k3⟩ := i6 i (by omega)
                  exact ⟨q, k1, k2, (e5' q).mpr (Or.inl k3)⟩
            have fin := next σ' (w + 1) hI' (fun q h => (e5' q).mpr (Or.inl h)) ?_ ?_ (by omega)
            · have e : ((w + 1 : Nat) : Int) = (w : Int) + 1 := by omega
              rw [e] at fin
              exact fin
            · intro q hq hqV
              rcases (e5' q).mp hqV with h | h
              · rcases hA q hq h with ⟨i, k1, k2⟩ | h2 | h2
                · exact Or.inl ⟨i, by omega, by rw [e7, if_neg (by omega)]; exact k2⟩
                · exact Or.inr (Or.inl (fun dd hd b' hb' hS => (e5' b').mpr (Or.inl (h2 dd hd b' hb' hS))))
                · exact Or.inr (Or.inr h2)
              · exact Or.inl ⟨w, by omega, by rw [e7, if_pos rfl, h]⟩
            · intro b' hb' _
              rw [uniq b' hb']
              exact (e5' b).mpr (Or.inr rfl)
          · rw [uniq b' hb']
            by_cases y : gI σ 93 b = (p : Int)
            · exact y
            · have e := hI.2.2.2.1 b (by omega) y
              rcases hneg b hRb with h | h
              · omega
              · rw [h] at y; exact absurd hI.2.2.1 y
/-- behind the flood of a region -/
theorem reg_fin {σ0 σ : ZSto} {m p : Nat} {S : Nat → Prop} (h3 : 3 ≤ m) (h9 : m ≤ 9) (hp : p < m * m) (hI : FRI σ0 σ m S p 0) (hA : FRA σ m S p 0 none) : ∀ q, q < 81 → (gI σ 93 q = (p : Int) ↔ Rch m S p q) := by
  have hN := sq_le h9
  obtain ⟨i1, i2, i3, i4, i5, i6⟩ := hI
  have dn : ∀ a, a < m * m → gI σ 93 a = (p : Int) → FRD σ m S p a 4 := by
    intro a ha haV
    rcases hA a ha haV with ⟨i, k, -⟩ | h | h
    · omega
    · exact h
    · cases h
  intro q hq
  refine ⟨fun h => (i2 q hq h).2, fun h => ?_⟩
  have := h (fun x => x < m * m ∧ gI σ 93 x = (p : Int)) ⟨hp, i3⟩ (fun a b ha hab hb => ⟨hab.2.1, ?_⟩)
  · exact this.2
  · obtain ⟨k, k1, k2⟩ := (nbM_adj (by omega) ha.1).mp hab
    exact dn a ha.1 ha.2 k k1 b k2 hb
theorem sm_regions {σ : ZSto} (hn : 104 ≤ n) {m : Nat} {bd : Nat → Int} {c : Int} (h3 : 3 ≤ m) (h9 : m ≤ 9) (hm : gI σ 73 13 = (m : Int)) (hw0 : WAll σ bd) (hcon : BCon m bd) (hc : c = 1 ∨ c = 2) :
    ZkV X M_X10_regions (d + 3) n [.ref (zB X + 73), iV c] σ (fun σ' => Fr rgW σ σ' ∧ RgM σ' m bd c) := by
  have hN := sq_le h9
  have mm : (m : Int) * (m : Int) = ((m * m : Nat) : Int) := by simp
  refine w_X10_regions hn ⟨by omega, by omega⟩ ?_
  have start := upto (N := 81) (Q := fun i τ => L_X10_regions_2 X (d + 2) n (zpV (fun σ' => Fr rgW σ σ' ∧ RgM σ' m bd c)) c (i : Int) τ) (I := fun i τ => Fr rgW σ τ ∧ ∀ q, q < i → gI τ 93 q = -1 ∧ gI τ 94 q = -1) ?_ ?_ 0 σ (by omega) ⟨Fr.rf, fun q hq => by omega⟩
  · simpa using start
  · rintro τ0 ⟨hf0, hz0⟩
    refine b_X10_regions_2 hn ⟨fun _ => ?_, fun q => by omega⟩
    have key := upto (N := m * m) (Q := fun p τ => L_X10_regions_30 X (d + 2) n (zpV (fun σ' => Fr rgW σ σ' ∧ RgM σ' m bd c)) c (p : Int) τ) (I := fun p τ => Fr rgW σ τ ∧ RgI τ m (Sc bd c) 94 p ∧ RgI τ m (Sr bd c) 93 p) ?_ ?_ 0 τ0 (by omega) ⟨hf0, ⟨fun q hq => ⟨fun y => by obtain ⟨r, h, _⟩ := y; omega, fun _ => (hz0 q (by omega)).2⟩, fun q _ h => (hz0 q h).2⟩, ⟨fun q hq => ⟨fun y => by obtain ⟨r, h, _⟩ := y; omega, fun _ => (hz0 q (by omega)).1⟩, fun q _ h => (hz0 q h).1⟩⟩
    · simpa using key
    · rintro τ ⟨hf, hC, hR⟩
      refine b_X10_regions_30 hn ?_
      rw [hf.I (by unfold rgW; omega), hm, mm]
      refine ⟨⟨by omega, by omega⟩, fun _ => ⟨hf, fun q => ⟨fun hq => ⟨fun hs h a b => (hR.1 q hq).1 ⟨q, hq, hs, Rch.rf⟩ h a b, fun hs => (hR.1 q hq).2 (fun ⟨r, y1, y2, y3⟩ => hs (y3.inS y2)), fun hs h a b => (hC.1 q hq).1 ⟨q, hq, hs, Rch.rf⟩ h a b, fun hs => (hC.1 q hq).2 (fun ⟨r, y1, y2, y3⟩ => hs (y3.inS y2))⟩, fun a b => ⟨hR.2 q a b, hC.2 q a b⟩⟩⟩, fun q => by omega⟩
    · rintro p τ hp ⟨hf, hC, hR⟩ ih
      have tp : ((p : Int)).toNat = p := by omega
      have rp : R32 ((p : Int) + 1) := ⟨by omega, by omega⟩
      have hm' : gI τ 73 13 = (m : Int) := by rw [hf.I (by unfold rgW; omega)]; exact hm
      have hw' : WAll τ bd := fun q hq => by rw [hf.I (by unfold rgW; omega)]; exact hw0 q hq
      have hcb := hcon p hp
      -- the second half: the region of p
      have half : ∀ τ' : ZSto, Fr rgW σ τ' → RgI τ' m (Sc bd c) 94 (p + 1) → RgI τ' m (Sr bd c) 93 p → L_X10_regions_109 X (d + 2) n (zpV (fun σ' => Fr rgW σ σ' ∧ RgM σ' m bd c)) c (p : Int) τ' := by
        intro τ' hf' hC' hR'
        have hm2 : gI τ' 73 13 = (m : Int) := by rw [hf'.I (by unfold rgW; omega)]; exact hm
        have hw2 : WAll τ' bd := fun q hq => by rw [hf'.I (by unfold rgW; omega)]; exact hw0 q hq
        have go : (¬ Sr bd c p ∨ Seen m (Sr bd c) p p) → L_X10_regions_30 X (d + 2) n (zpV (fun σ' => Fr rgW σ σ' ∧ RgM σ' m bd c)) c ((p : Int) + 1) τ' := by
          intro hz
          have := ih τ' ⟨hf', hC', fun q hq => by rw [Seen.n hz]; exact hR'.1 q hq, hR'.2⟩
          simpa using this
        refine b_X10_regions_109 hn ?_
        rw [tp, hw2 p (by omega)]
        refine ⟨by omega, fun q => ⟨rp, go (Or.inl (fun y => y q))⟩, fun q => ⟨fun q2 => ?_, fun q2 => ⟨rp, go (Or.inr (Classical.byContradiction (fun y => by have := (hR'.1 p hp).2 y; omega)))⟩⟩⟩
        have hsp : Sr bd c p := q
        have nv : ¬ Seen m (Sr bd c) p p := by
          intro y
          obtain ⟨h, h1, h2⟩ := HdS.ex (S := Sr bd c) p hp hsp
          have := (hR'.1 p hp).1 y h h1 h2
          omega
        have hd : HdS m (Sr bd c) p := (HdS.iff hp hsp).mp nv
        obtain ⟨τ1, e1⟩ : ∃ τ1, τ1 = sI (sI τ' 87 0 (p : Int)) 93 p (p : Int) := ⟨_, rfl⟩
        rw [← e1]
        have f1 : Fr (fun a i => a = 87 ∨ a = 93) τ' τ1 := by rw [e1]; exact (Fr.rf.sI (Or.inl rfl)).sI (Or.inr rfl)
        have e93 : ∀ q, gI τ1 93 q = if q = p then (p : Int) else gI τ' 93 q := fun q => by rw [e1]; simp [gI_if]
        -- values ahead of the flood are never p
        have np : ∀ q, q < 81 → ¬ gI τ' 93 q = (p : Int) := by
          intro q hq y
          by_cases hqm : q < m * m
          · by_cases hv : Seen m (Sr bd c) p q
            · obtain ⟨r, r1, r2, r3⟩ := id hv
              obtain ⟨h, h1, h2⟩ := HdS.ex (m := m) (S := Sr bd c) r (by omega) r2
              have := (hR'.1 q hqm).1 hv h h1 (h2.tr r3)
              have hle := h1.2.2 r h2
              omega
            · have := (hR'.1 q hqm).2 hv; omega
          · have := hR'.2 q (by omega) hq; omega
        have in1 : ∀ q, q < 81 → (gI τ1 93 q = (p : Int) ↔ q = p) := by
          intro q hq
          rw [e93]
          by_cases y : q = p
          · simp [y]
          · rw [if_neg y]; exact ⟨fun w => absurd w (np q hq), fun w => absurd w y⟩
        have hI : FRI τ' τ1 m (Sr bd c) p 1 := by
          refine ⟨f1, fun q hq y => ?_, (in1 p (by omega)).mpr rfl, fun q hq y => ?_, ?_, fun i hi => ?_⟩
          · rw [(in1 q hq).mp y]; exact ⟨hp, Rch.rf⟩
          · rw [e93, if_neg (fun w => y ((in1 q hq).mpr w))]
          · rw [cnt_congr (Q := fun q => q = p) (fun i hi => in1 i (by omega)), cnt_one hp]; exact Nat.le_refl 1
          · have : i = 0 := by omega
            subst this
            exact ⟨p, by rw [e1]; simp [gI_if], hp, (in1 p (by omega)).mpr rfl⟩
        have hA : FRA τ1 m (Sr bd c) p 1 none := by
          intro a ha haV
          rw [(in1 a (by omega)).mp haV]
          exact Or.inl ⟨0, by omega, by rw [e1]; simp [gI_if]⟩
        have hneg : ∀ q, Rch m (Sr bd c) p q → gI τ' 93 q = -1 ∨ q = p := by
          intro q hq
          refine Or.inl ((hR'.1 q (hq.lt hp)).2 (fun y => nv ?_))
          obtain ⟨r, r1, r2, r3⟩ := y
          exact ⟨r, r1, r2, r3.tr (hq.symm hsp)⟩
        refine (reg_loop (X := X) (d := d + 1) hn h3 h9 hm2 hw2 hp hsp hneg (P := fun σ' => Fr rgW σ σ' ∧ RgM σ' m bd c) ?_ (10 * (2 * 81 + 1))).1 τ1 1 hI hA (by omega)
        intro τ2 hI2 hA2
        have V := reg_fin h3 h9 hp hI2 hA2
        refine ⟨rp, ?_⟩
        have f2 := hI2.1
        have := ih τ2 ⟨hf'.tr (f2.mono (fun a i y => by unfold rgW; omega)), ⟨fun q hq => by rw [f2.I (by omega)]; exact hC'.1 q hq, fun q a b => by rw [f2.I (by omega)]; exact hC'.2 q a b⟩, fun q hq => ?_, fun q a b => ?_⟩
        · simpa using this
        · rw [Seen.s hsp]
          by_cases y : Rch m (Sr bd c) p q
          · refine ⟨fun _ h h1 h2 => ?_, fun w => absurd (Or.inr y) w⟩
            rw [(V q (by omega)).mpr y, HdS.uniq h1 hd h2 y]
          · have ny : ¬ gI τ2 93 q = (p : Int) := fun w => y ((V q (by omega)).mp w)
            rw [hI2.2.2.2.1 q (by omega) ny]
            exact ⟨fun w => (hR'.1 q hq).1 (w.resolve_right y), fun w => (hR'.1 q hq).2 (fun u => w (Or.inl u))⟩
        · have ny : ¬ gI τ2 93 q = (p : Int) := fun w => by have := ((V q b).mp w).lt hp; omega
          rw [hI2.2.2.2.1 q b ny]; exact hR'.2 q a b
      have pass : (¬ Sc bd c p ∨ Seen m (Sc bd c) p p) → L_X10_regions_109 X (d + 2) n (zpV (fun σ' => Fr rgW σ σ' ∧ RgM σ' m bd c)) c (p : Int) τ := fun hz => half τ hf ⟨fun q hq => by rw [Seen.n hz]; exact hC.1 q hq, hC.2⟩ hR
      refine b_X10_regions_30 hn ?_
      rw [hm', mm, tp, hw' p (by omega)]
      refine ⟨⟨by omega, by omega⟩, fun q => by omega, fun _ => ⟨by omega, fun q => pass (Or.inl q), fun q => ⟨fun q2 => pass (Or.inr (Classical.byContradiction (fun y => by have := (hC.1 p hp).2 y; omega))), fun q2 => ?_⟩⟩⟩
      have hsp : Sc bd c p := q
      have nv : ¬ Seen m (Sc bd c) p p := by
        intro y
        obtain ⟨h, h1, h2⟩ := HdS.ex (S := Sc bd c) p hp hsp
        have := (hC.1 p hp).1 y h h1 h2
        omega
      have hd : HdS m (Sc bd c) p := (HdS.iff hp hsp).mp nv
      refine (sm_flood hn h3 h9 hm' (fun r hr => hw' r (by omega)) hp (by omega) ⟨by omega, by omega⟩).mono ?_
      rintro v τ1 - ⟨hF, -⟩
      have eC : ∀ r, r < 81 → (gI τ1 85 r = 1 ↔ Rch m (Sc bd c) p r) := by
        intro r hr
        rw [hF.2.2.1 r hr]
        unfold Chn
        have e : (fun x => bd x = bd p) = Sc bd c := by funext x; unfold Sc; rw [q]
        rw [e]
      have inner := upto (N := m * m) (Q := fun i τ' => L_X10_regions_71 X (d + 2) n (zpV (fun σ' => Fr rgW σ σ' ∧ RgM σ' m bd c)) c (p : Int) (i : Int) τ') (I := fun i τ' => Fr (fun a i => a = 94) τ1 τ' ∧ (∀ r, r < i → Rch m (Sc bd c) p r → gI τ' 94 r = (p : Int)) ∧ ∀ r, (i ≤ r ∨ ¬ Rch m (Sc bd c) p r) → gI τ' 94 r = gI τ1 94 r) ?_ ?_ 0 τ1 (by omega) ⟨Fr.rf, fun r hr => by omega, fun _ _ => rfl⟩
      · simpa using inner
      · rintro τ' ⟨f', a1, a2⟩
        have o94 : ∀ r, gI τ1 94 r = gI τ 94 r := fun r => hF.1.I (by unfold fldW; omega)
        refine b_X10_regions_71 hn ?_
        rw [f'.I (by omega), hF.1.I (by unfold fldW; omega), hm', mm]
        refine ⟨⟨by omega, by omega⟩, fun _ => half τ' ((hf.tr (hF.1.mono (fun a i y => by unfold fldW at y; unfold rgW; omega))).tr (f'.mono (fun a i y => by unfold rgW; omega))) ⟨fun r hr => ?_, fun r a b => ?_⟩ ⟨fun r hr => by rw [f'.I (by omega), hF.1.I (by unfold fldW; omega)]; exact hR.1 r hr, fun r a b => by rw [f'.I (by omega), hF.1.I (by unfold fldW; omega)]; exact hR.2 r a b⟩, fun z => by omega⟩
        · rw [Seen.s hsp]
          by_cases y : Rch m (Sc bd c) p r
          · refine ⟨fun _ h h1 h2 => ?_, fun w => absurd (Or.inr y) w⟩
            rw [a1 r hr y, HdS.uniq h1 hd h2 y]
          · rw [a2 r (Or.inr y), o94]
            exact ⟨fun w => (hC.1 r hr).1 (w.resolve_right y), fun w => (hC.1 r hr).2 (fun u => w (Or.inl u))⟩
        · rw [a2 r (Or.inl a), o94]; exact hC.2 r a b
      · rintro i τ' hi ⟨f', a1, a2⟩ ih2
        have ti : ((i : Int)).toNat = i := by omega
        have ri : R32 ((i : Int) + 1) := ⟨by omega, by omega⟩
        have hbi := (hF.2.1 i (by omega)).1
        have hei := eC i (by omega)
        refine b_X10_regions_71 hn ?_
        rw [f'.I (a := 73) (by omega), hF.1.I (a := 73) (by unfold fldW; omega), hm', mm, ti, f'.I (a := 85) (by omega)]
        refine ⟨⟨by omega, by omega⟩, fun z => by omega, fun _ => ⟨by omega, fun z => ⟨ri, ?_⟩, fun z => ⟨ri, ?_⟩⟩⟩
        · have ny : ¬ Rch m (Sc bd c) p i := fun w => by have := hei.mpr w; omega
          have := ih2 τ' ⟨f', fun r hr y => ?_, fun r hr => a2 r (by rcases hr with hr | hr; exact Or.inl (by omega); exact Or.inr hr)⟩
          · simpa using this
          · by_cases e : r = i
            · rw [e] at y; exact absurd y ny
            · exact a1 r (by omega) y
        · have yy : Rch m (Sc bd c) p i := hei.mp (by omega)
          have := ih2 (sI τ' 94 i (p : Int)) ⟨f'.sI rfl, fun r hr y => ?_, fun r hr => ?_⟩
          · simpa using this
          · by_cases e : r = i
            · subst e; exact gI_same _ _ _ _
            · rw [gI_f e]; exact a1 r (by omega) y
          · have e : r ≠ i := by
              intro e
              subst e
              rcases hr with hr | hr
              · omega
              · exact hr yy
            rw [gI_f e]
            exact a2 r (by rcases hr with hr | hr; exact Or.inl (by omega); exact Or.inr hr)
  · rintro i τ hi ⟨hf, hz⟩ ih
    have ti : ((i : Int)).toNat = i := by omega
    refine b_X10_regions_2 hn ⟨fun q => by omega, fun _ => ⟨by omega, ⟨by omega, by omega⟩, ?_⟩⟩
    rw [ti]
    have := ih (sI (sI τ 93 i (-1)) 94 i (-1)) ⟨(hf.sI (by unfold rgW; omega)).sI (by unfold rgW; omega), fun q hq => ?_⟩
    · simpa using this
    · by_cases e : q = i
      · subst e; simp [gI_if]
      · have := hz q (by omega)
        simp [gI_if, e, this]
end ZL
