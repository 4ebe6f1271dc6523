/-! ===== Board.gather ===== -/
/-- the board at o has size m, its neighbours are laid -/
def BGeo (σ : ZSto) (o m : Nat) : Prop := 3 ≤ m ∧ m ≤ 9 ∧ gI σ o 7 = (m : Int) ∧ gI σ o 8 = ((m * m : Nat) : Int) ∧ ∀ p, p < m * m → ∀ dd, dd < 4 → gI σ (o + 2) (4 * p + dd) = nbC m p dd
/-- contents -/
def BCon (m : Nat) (bd : Nat → Int) : Prop := ∀ p, p < m * m → bd p = 0 ∨ bd p = 1 ∨ bd p = 2
def BSt (σ : ZSto) (o m : Nat) (bd : Nat → Int) : Prop := ∀ p, p < m * m → gI σ (o + 1) p = bd p
/-- marks are never above the counter -/
def BMk (σ : ZSto) (o : Nat) : Prop := 0 ≤ gI σ o 10 ∧ ∀ q, gI σ (o + 4) q ≤ gI σ o 10 ∧ gI σ (o + 5) q ≤ gI σ o 10
def gatW (o a i : Nat) : Prop := a = o + 3 ∨ a = o + 4 ∨ a = o + 5 ∨ a = o + 6 ∨ (a = o ∧ (i = 9 ∨ i = 10 ∨ i = 11))
theorem sq_le {m : Nat} (h : m ≤ 9) : m * m ≤ 81 := Nat.le_trans (Nat.mul_le_mul h h) (by decide)
/-- what gather has done so far -/
def GI (σ0 σ : ZSto) (o m : Nat) (bd : Nat → Int) (g : Int) (S : Nat → Prop) (s k : Nat) : Prop :=
  Fr (gatW o) σ0 σ ∧ gI σ o 10 = g ∧ gI σ o 9 = (k : Int) ∧
  (∀ q, gI σ (o + 4) q = g → q < m * m ∧ Rch m S s q) ∧
  (∀ q, gI σ (o + 5) q = g → q < m * m ∧ ¬ S q ∧ ∃ a, gI σ (o + 4) a = g ∧ Adj m a q) ∧
  gI σ (o + 4) s = g ∧ k = cnt (fun q => gI σ (o + 4) q = g) (m * m) ∧
  (∀ i, i < k → ∃ q : Nat, gI σ (o + 3) i = (q : Int) ∧ gI σ (o + 4) q = g) ∧
  (∀ q, gI σ (o + 4) q = g → ∃ i, i < k ∧ gI σ (o + 3) i = (q : Int)) ∧
  (∀ c : Nat, c < 3 → gI σ (o + 6) c = (cnt (fun q => gI σ (o + 5) q = g ∧ bd q = (c : Int)) (m * m) : Nat)) ∧
  ((∃ q, gI σ (o + 5) q = g ∧ bd q = 0) → ∃ q : Nat, gI σ o 11 = (q : Int) ∧ gI σ (o + 5) q = g ∧ bd q = 0) ∧
  ((∀ q, gI σ (o + 5) q = g → bd q ≠ 0) → gI σ o 11 = -1) ∧
  (∀ q, (gI σ (o + 4) q ≠ g → gI σ (o + 4) q = gI σ0 (o + 4) q) ∧ (gI σ (o + 5) q ≠ g → gI σ (o + 5) q = gI σ0 (o + 5) q))
theorem gi_V {σ0 σ : ZSto} {o m : Nat} {bd : Nat → Int} {g : Int} {S : Nat → Prop} {s k b : Nat} (h : GI σ0 σ o m bd g S s k) (hb : b < m * m) (hv : gI σ (o + 4) b ≠ g) (hr : Rch m S s b) :
    GI σ0 (sI (sI (sI σ (o + 4) b g) (o + 3) k b) o 9 ((k : Int) + 1)) o m bd g S s (k + 1) := by
  obtain ⟨f, h10, h9, hV, hU, hs, hk, hg1, hg2, hc, hl1, hl2, hm⟩ := h
  obtain ⟨σ', eσ⟩ : ∃ σ', σ' = sI (sI (sI σ (o + 4) b g) (o + 3) k b) o 9 ((k : Int) + 1) := ⟨_, rfl⟩
  have e4 : ∀ q, gI σ' (o + 4) q = if q = b then g else gI σ (o + 4) q := by intro q; rw [eσ]; simp [gI_if]
  have e5 : ∀ q, gI σ' (o + 5) q = gI σ (o + 5) q := by intro q; rw [eσ]; simp [gI_if]
  have e3 : ∀ q, gI σ' (o + 3) q = if q = k then (b : Int) else gI σ (o + 3) q := by intro q; rw [eσ]; simp [gI_if]
  have e6 : ∀ q, gI σ' (o + 6) q = gI σ (o + 6) q := by intro q; rw [eσ]; simp [gI_if]
  have eo : ∀ q, q ≠ 9 → gI σ' o q = gI σ o q := by intro q hq; rw [eσ]; simp [gI_if, hq]
  have e9 : gI σ' o 9 = (k : Int) + 1 := by rw [eσ]; simp [gI_if]
  have e4' : ∀ q, gI σ' (o + 4) q = g ↔ (gI σ (o + 4) q = g ∨ q = b) := by
    intro q; rw [e4]
    by_cases z : q = b
    · simp [z]
    · simp [z]
  rw [← eσ]
  refine ⟨?_, by rw [eo 10 (by omega)]; exact h10, by rw [e9]; simp, ?_, ?_, ?_, ?_, ?_, ?_, ?_, ?_, ?_, ?_⟩
  · rw [eσ]
    refine ((f.sI ?_).sI ?_).sI ?_ <;> (unfold gatW; omega)
  · intro q hq
    rcases (e4' q).mp hq with z | z
    · exact hV q z
    · rw [z]; exact ⟨hb, hr⟩
  · intro q hq
    rw [e5] at hq
    obtain ⟨a1, a2, a, a3, a4⟩ := hU q hq
    exact ⟨a1, a2, a, (e4' a).mpr (Or.inl a3), a4⟩
  · exact (e4' s).mpr (Or.inl hs)
  · rw [cnt_add (P := fun q => gI σ (o + 4) q = g) hb hv ((e4' b).mpr (Or.inr rfl)) (fun i _ hi => by rw [e4']; simp [hi]), ← hk]
  · intro i hi
    rw [e3]
    by_cases z : i = k
    · rw [if_pos z]; exact ⟨b, rfl, (e4' b).mpr (Or.inr rfl)⟩
    · rw [if_neg z]
      obtain ⟨q, q1, q2⟩ := hg1 i (by omega)
      exact ⟨q, q1, (e4' q).mpr (Or.inl q2)⟩
  · intro q hq
    rcases (e4' q).mp hq with z | z
    · obtain ⟨i, i1, i2⟩ := hg2 q z
      exact ⟨i, by omega, by rw [e3, if_neg (by omega)]; exact i2⟩
    · exact ⟨k, by omega, by rw [e3, if_pos rfl, z]⟩
  · intro c hc2
    rw [e6, hc c hc2]
    congr 1
    exact cnt_congr (fun i _ => by rw [e5])
  · rintro ⟨q, q1, q2⟩
    rw [e5] at q1
    obtain ⟨r, r1, r2, r3⟩ := hl1 ⟨q, q1, q2⟩
    exact ⟨r, by rw [eo 11 (by omega)]; exact r1, by rw [e5]; exact r2, r3⟩
  · intro hq
    rw [eo 11 (by omega)]
    exact hl2 (fun q z => hq q (by rw [e5]; exact z))
  · intro q
    refine ⟨fun z => ?_, fun z => ?_⟩
    · have z1 : ¬ (gI σ (o + 4) q = g ∨ q = b) := fun w => z ((e4' q).mpr w)
      rw [e4, if_neg (fun w => z1 (Or.inr w))]
      exact (hm q).1 (fun w => z1 (Or.inl w))
    · rw [e5] at z ⊢; exact (hm q).2 z
theorem gi_U {σ0 σ : ZSto} {o m : Nat} {bd : Nat → Int} {g : Int} {S : Nat → Prop} {s k b c : Nat} {l : Int} (h : GI σ0 σ o m bd g S s k) (hb : b < m * m) (hu : gI σ (o + 5) b ≠ g) (hS : ¬ S b) (ha : ∃ a, gI σ (o + 4) a = g ∧ Adj m a b) (hc : c < 3) (hbd : bd b = (c : Int)) (hl : l = if c = 0 then (b : Int) else gI σ o 11) :
    GI σ0 (sI (sI (sI σ (o + 5) b g) (o + 6) c (gI σ (o + 6) c + 1)) o 11 l) o m bd g S s k := by
  obtain ⟨f, h10, h9, hV, hU, hs, hk, hg1, hg2, hcc, hl1, hl2, hm⟩ := h
  obtain ⟨σ', eσ⟩ : ∃ σ', σ' = sI (sI (sI σ (o + 5) b g) (o + 6) c (gI σ (o + 6) c + 1)) o 11 l := ⟨_, rfl⟩
  have e4 : ∀ q, gI σ' (o + 4) q = gI σ (o + 4) q := by intro q; rw [eσ]; simp [gI_if]
  have e5 : ∀ q, gI σ' (o + 5) q = if q = b then g else gI σ (o + 5) q := by intro q; rw [eσ]; simp [gI_if]
  have e3 : ∀ q, gI σ' (o + 3) q = gI σ (o + 3) q := by intro q; rw [eσ]; simp [gI_if]
  have e6 : ∀ q, gI σ' (o + 6) q = if q = c then gI σ (o + 6) c + 1 else gI σ (o + 6) q := by intro q; rw [eσ]; simp [gI_if]
  have eo : ∀ q, q ≠ 11 → gI σ' o q = gI σ o q := by intro q hq; rw [eσ]; simp [gI_if, hq]
  have e11 : gI σ' o 11 = l := by rw [eσ]; simp [gI_if]
  have e5' : ∀ q, gI σ' (o + 5) q = g ↔ (gI σ (o + 5) q = g ∨ q = b) := by
    intro q; rw [e5]
    by_cases z : q = b
    · simp [z]
    · simp [z]
  rw [← eσ]
  refine ⟨?_, by rw [eo 10 (by omega)]; exact h10, by rw [eo 9 (by omega)]; exact h9, ?_, ?_, ?_, ?_, ?_, ?_, ?_, ?_, ?_, ?_⟩
  · rw [eσ]
    refine ((f.sI ?_).sI ?_).sI ?_ <;> (unfold gatW; omega)
  · intro q hq; rw [e4] at hq; exact hV q hq
  · intro q hq
    rcases (e5' q).mp hq with z | z
    · obtain ⟨a1, a2, a, a3, a4⟩ := hU q z
      exact ⟨a1, a2, a, by rw [e4]; exact a3, a4⟩
    · obtain ⟨a, a3, a4⟩ := ha
      rw [z]; exact ⟨hb, hS, a, by rw [e4]; exact a3, a4⟩
  · rw [e4]; exact hs
  · rw [hk]; exact cnt_congr (fun i _ => by rw [e4])
  · intro i hi
    obtain ⟨q, q1, q2⟩ := hg1 i hi
    exact ⟨q, by rw [e3]; exact q1, by rw [e4]; exact q2⟩
  · intro q hq
    rw [e4] at hq
    obtain ⟨i, i1, i2⟩ := hg2 q hq
    exact ⟨i, i1, by rw [e3]; exact i2⟩
  · intro c' hc'
    rw [e6]
    by_cases z : c' = c
    · subst z
      rw [if_pos rfl, hcc c' hc', cnt_add (P := fun q => gI σ (o + 5) q = g ∧ bd q = (c' : Int)) (Q := fun q => gI σ' (o + 5) q = g ∧ bd q = (c' : Int)) hb (fun w => hu w.1) ⟨(e5' b).mpr (Or.inr rfl), hbd⟩ (fun i _ hi => by rw [e5']; simp [hi])]
      simp
    · rw [if_neg z, hcc c' hc']
      congr 1
      refine cnt_congr (fun i _ => ?_)
      rw [e5']
      constructor
      · rintro ⟨q1, q2⟩; exact ⟨Or.inl q1, q2⟩
      · rintro ⟨q1 | q1, q2⟩
        · exact ⟨q1, q2⟩
        · rw [q1, hbd] at q2; omega
  · rintro ⟨q, q1, q2⟩
    by_cases z : c = 0
    · rw [if_pos z] at hl
      exact ⟨b, by rw [e11, hl], (e5' b).mpr (Or.inr rfl), by rw [hbd, z]; rfl⟩
    · rw [if_neg z] at hl
      rcases (e5' q).mp q1 with w | w
      · obtain ⟨r, r1, r2, r3⟩ := hl1 ⟨q, w, q2⟩
        exact ⟨r, by rw [e11, hl]; exact r1, (e5' r).mpr (Or.inl r2), r3⟩
      · rw [w, hbd] at q2; omega
  · intro hq
    have z : c ≠ 0 := fun z => hq b ((e5' b).mpr (Or.inr rfl)) (by rw [hbd, z]; rfl)
    rw [if_neg z] at hl
    rw [e11, hl]
    exact hl2 (fun q w => hq q ((e5' q).mpr (Or.inl w)))
  · intro q
    refine ⟨fun z => ?_, fun z => ?_⟩
    · rw [e4] at z ⊢; exact (hm q).1 z
    · have z1 : ¬ (gI σ (o + 5) q = g ∨ q = b) := fun w => z ((e5' q).mpr w)
      rw [e5, if_neg (fun w => z1 (Or.inr w))]
      exact (hm q).2 (fun w => z1 (Or.inl w))
/-- points of the row up to i have all their neighbours marked, of point i those ahead of direction j -/
def GD (σ : ZSto) (o m : Nat) (g : Int) (i j : Nat) : Prop :=
  (∀ i', i' < i → ∀ a b : Nat, gI σ (o + 3) i' = (a : Int) → Adj m a b → gI σ (o + 4) b = g ∨ gI σ (o + 5) b = g) ∧
  (∀ j', j' < j → ∀ a b : Nat, gI σ (o + 3) i = (a : Int) → nbC m a j' = (b : Int) → gI σ (o + 4) b = g ∨ gI σ (o + 5) b = g)
section ZG
variable {X : ZX} {d n : Nat} {P : ZSto → Prop}
/-- gather's two loops -/
theorem gather_loop (hn : 73 ≤ n) {o m : Nat} (ho : zIsB o) {bd : Nat → Int} {g mask : Int} {S : Nat → Prop} {s : Nat} {σ0 : ZSto} (hgeo : BGeo σ0 o m) (hcon : BCon m bd) (hst : BSt σ0 o m bd) (hss : S s) (hg : R32 g)
    (hmask : ∀ q, q < m * m → (andI (shrI mask (bd q)) 1 = 0 ↔ ¬ S q))
    (hP : ∀ (σ : ZSto) (k : Nat), GI σ0 σ o m bd g S s k → GD σ o m g k 0 → P σ) :
    ∀ (w : Nat) (σ : ZSto) (k i j : Nat), GI σ0 σ o m bd g S s k → i < k → j ≤ 4 → GD σ o m g i j → 5 * (82 - i) - j ≤ w → L_X0_gather_95 X d n (zpV P) o mask (i : Int) (j : Int) σ := by
  obtain ⟨m3, m9, -, hpts, hnb⟩ := hgeo
  have hN : m * m ≤ 81 := sq_le m9
  intro w
  induction w with
  | zero =>
    intro σ k i j hI hik hj hD hw
    have := hI.2.2.2.2.2.2.1
    have := cnt_le (fun q => gI σ (o + 4) q = g) (m * m)
    omega
  | succ w ih =>
    intro σ k i j hI hik hj hD hw
    have hk81 : k ≤ 81 := by have := hI.2.2.2.2.2.2.1; have := cnt_le (fun q => gI σ (o + 4) q = g) (m * m); omega
    refine b_X0_gather_95 hn ho ⟨fun h4 => ?_, fun h4 => ?_⟩
    · have ej : j = 4 := by omega
      subst ej
      refine ⟨⟨by omega, by omega⟩, ?_⟩
      -- the next point of the row
      have hD2 : GD σ o m g (i + 1) 0 := by
        refine ⟨fun i' hi' a b ha hab => ?_, fun j' hj' => by omega⟩
        by_cases z : i' = i
        · subst z
          have hlt : a < m * m := hab.1
          obtain ⟨dd, hd, he⟩ := (nbC_adj (by omega) hlt).mp hab
          exact hD.2 dd hd a b ha he
        · exact hD.1 i' (by omega) a b ha hab
      refine b_X0_gather_78 hn ho ?_
      rw [hI.2.2.1]
      refine ⟨fun q => ?_, fun q => ⟨fun q2 => by omega, fun q2 => ?_⟩⟩
      · have e : i + 1 = k := by omega
        rw [e] at hD2
        exact hP σ k hI hD2
      · have := ih σ k (i + 1) 0 hI (by omega) (by omega) hD2 (by omega)
        simpa using this
    · -- one neighbour
      obtain ⟨a, ha, haV⟩ := hI.2.2.2.2.2.2.2.1 i hik
      have haN := hI.2.2.2.1 a haV
      have hfr := hI.1
      have eb : gI σ (o + 2) (4 * a + j) = nbC m a j := by rw [hfr.I (by unfold gatW; omega)]; exact hnb a haN.1 j (by omega)
      have et : ((4 * (gI σ (o + 3) ((i : Int)).toNat)) + (j : Int)).toNat = 4 * a + j := by simp [ha]; omega
      have next : ∀ (σ' : ZSto) (k' : Nat), GI σ0 σ' o m bd g S s k' → k ≤ k' → GD σ' o m g i (j + 1) → R32 ((j : Int) + 1) ∧ L_X0_gather_95 X d n (zpV P) o mask (i : Int) ((j : Int) + 1) σ' := by
        intro σ' k' hI' hk' hD'
        refine ⟨⟨by omega, by omega⟩, ?_⟩
        have := ih σ' k' i (j + 1) hI' (by omega) (by omega) hD' (by omega)
        simpa using this
      refine ⟨by omega, by simp [ha]; omega, fun y hy => ?_⟩
      rw [et, eb] at hy
      refine ⟨fun hneg => ?_, fun hpos => ?_⟩
      · refine next σ k hI (Nat.le_refl k) ⟨hD.1, fun j' hj' a' b ha' hb' => ?_⟩
        by_cases z : j' = j
        · subst z
          rw [ha] at ha'
          have : a = a' := by omega
          subst this
          rw [← hy] at hb'; omega
        · exact hD.2 j' (by omega) a' b ha' hb'
      · obtain ⟨b, hbN, hb⟩ : ∃ q : Nat, q < m * m ∧ nbC m a j = (q : Int) := by
          rcases nbC_in (by omega) haN.1 (show j < 4 by omega) with z | z
          · omega
          · exact z
        have eyb : y = (b : Int) := by rw [hy, hb]
        subst eyb
        have hadj : Adj m a b := (nbC_adj (by omega) haN.1).mpr ⟨j, by omega, hb⟩
        have h10 := hI.2.1
        have tb : ((b : Int)).toNat = b := by omega
        rw [tb, h10]
        -- behind this neighbour, if it is marked in σ'
        have mark : ∀ (σ' : ZSto), (∀ q, gI σ (o + 4) q = g → gI σ' (o + 4) q = g) → (∀ q, gI σ (o + 5) q = g → gI σ' (o + 5) q = g) → (∀ i', i' ≤ i → gI σ' (o + 3) i' = gI σ (o + 3) i') → (gI σ' (o + 4) b = g ∨ gI σ' (o + 5) b = g) → GD σ' o m g i (j + 1) := by
          intro σ' k4 k5 k3 hbm
          refine ⟨fun i' hi' a' b' ha' hab' => ?_, fun j' hj' a' b' ha' hb' => ?_⟩
          · rw [k3 i' (by omega)] at ha'
            rcases hD.1 i' hi' a' b' ha' hab' with z | z
            · exact Or.inl (k4 _ z)
            · exact Or.inr (k5 _ z)
          · rw [k3 i (Nat.le_refl i)] at ha'
            by_cases z : j' = j
            · subst z
              rw [ha] at ha'
              have : a = a' := by omega
              subst this
              rw [hb] at hb'
              have : b = b' := by omega
              subst this
              exact hbm
            · rcases hD.2 j' (by omega) a' b' ha' hb' with z2 | z2
              · exact Or.inl (k4 _ z2)
              · exact Or.inr (k5 _ z2)
        refine ⟨by omega, fun hin => next σ k hI (Nat.le_refl k) (mark σ (fun _ z => z) (fun _ z => z) (fun _ _ => rfl) (Or.inl hin)), fun hnin => ⟨fun hnu => fun y2 hy2 => ?_, fun hu => next σ k hI (Nat.le_refl k) (mark σ (fun _ z => z) (fun _ z => z) (fun _ _ => rfl) (Or.inr hu))⟩⟩
        have ey2 : y2 = bd b := by rw [hy2, hfr.I (by unfold gatW; omega)]; exact hst b hbN
        subst ey2
        have hm2 := hmask b hbN
        have hkN : k < m * m := by rw [hI.2.2.2.2.2.2.1]; exact cnt_lt hbN hnin
        refine ⟨fun hne => ?_, fun heq => ?_⟩
        · have hSb : S b := Classical.byContradiction (fun z => hne (hm2.mpr z))
          rw [hI.2.2.1]
          have tk : ((k : Int)).toNat = k := by omega
          rw [tk]
          refine ⟨fun q => by omega, fun q => ⟨by omega, ⟨by omega, by omega⟩, ?_⟩⟩
          have hI' := gi_V hI hbN hnin (haN.2.step hadj hSb)
          refine next _ (k + 1) hI' (by omega) (mark _ (fun q z => ?_) (fun q z => ?_) (fun i' hi' => ?_) (Or.inl ?_))
          · simp [gI_if]; exact fun _ => z
          · simp [gI_if]; exact z
          · simp [gI_if]; omega
          · simp [gI_if]
        · have hSb : ¬ S b := hm2.mp heq
          have hc := hcon b hbN
          obtain ⟨c, hc3, hcb⟩ : ∃ c : Nat, c < 3 ∧ bd b = (c : Int) := by
            rcases hc with z | z | z
            · exact ⟨0, by omega, z⟩
            · exact ⟨1, by omega, z⟩
            · exact ⟨2, by omega, z⟩
          have tc : (bd b).toNat = c := by omega
          rw [tc]
          have hrc : gI σ (o + 6) c = ((cnt (fun q => gI σ (o + 5) q = g ∧ bd q = (c : Int)) (m * m) : Nat) : Int) := hI.2.2.2.2.2.2.2.2.2.1 c hc3
          have hrc2 := cnt_le (fun q => gI σ (o + 5) q = g ∧ bd q = (c : Int)) (m * m)
          refine ⟨fun q => by omega, fun q => ⟨fun q2 => by omega, fun q2 => ⟨by omega, ⟨by omega, by omega⟩, fun q3 => ?_, fun q3 => ?_⟩⟩⟩
          · have hI' := gi_U (l := gI σ o 11) hI hbN hnu hSb ⟨a, haV, hadj⟩ hc3 hcb (by rw [if_neg (by omega)])
            refine next _ k hI' (Nat.le_refl k) (mark _ (fun q z => ?_) (fun q z => ?_) (fun i' hi' => ?_) (Or.inr ?_))
            · simp [gI_if]; exact z
            · simp [gI_if]; exact fun _ => z
            · simp [gI_if]
            · simp [gI_if]
          · have hI' := gi_U (l := (b : Int)) hI hbN hnu hSb ⟨a, haV, hadj⟩ hc3 hcb (by rw [if_pos (by omega)])
            refine next _ k hI' (Nat.le_refl k) (mark _ (fun q z => ?_) (fun q z => ?_) (fun i' hi' => ?_) (Or.inr ?_))
            · simp [gI_if]; exact z
            · simp [gI_if]; exact fun _ => z
            · simp [gI_if]
            · simp [gI_if]
end ZG
