section ZS
variable {X : ZX} {d n : Nat} {σ : ZSto}
theorem op_clocks (hn : 104 ≤ n) (h : ClkR σ) {a b c : Int} (ha : R32 a) (hb : R32 b) (hc : R32 c) : ZkZ X M_X9_clocks (d + 3) n [.ref (zB X + 0), iV a, iV b, iV c] σ (fun v σ1 => ZkZ X M_X10_clocks (d + 1) n [.ref (zB X + 73), iV a, iV b, iV c] σ1 (fun w σ2 => v = w ∧ ClkR σ2 ∧ Fr clkD σ σ2)) := by
  refine (sx_clocks (by omega) ha hb hc).mono ?_
  rintro v σ1 - (⟨hg, rfl, rfl⟩ | ⟨hg, rfl, rfl⟩)
  · have hz : ∀ τ : ZSto, (∀ c' : Nat, c' = 1 ∨ c' = 2 → gI τ (70 + c') 0 = a ∧ gI τ (70 + c') 1 = b ∧ gI τ (70 + c') 2 = c ∧ gI τ (70 + c') 3 = 0) → Fr clkD σ τ → L_X10_clocks_46 X d n (zpZ (fun w σ2 => (1 : Int) = w ∧ ClkR σ2 ∧ Fr clkD σ σ2)) a b c 1 τ := by
      intro τ hτ hf
      refine b_X10_clocks_46 hn ⟨fun q => by omega, fun _ => ⟨by omega, ⟨by omega, by omega⟩, b_X10_clocks_46 hn ⟨fun q => by omega, fun _ => ⟨by omega, ⟨by omega, by omega⟩, b_X10_clocks_46 hn ⟨fun _ => ⟨rfl, ?_, ?_⟩, fun q => by omega⟩⟩⟩⟩⟩
      · refine ⟨fun c' hc' => ?_, by simp [gI_if]; omega, by simp [gI_if]; omega⟩
        obtain ⟨e0, e1, e2, e3⟩ := hτ c' hc'
        rcases hc' with rfl | rfl <;> simp [gI_if] at e0 e1 e2 e3 ⊢ <;> simp [e0, e1, e2, e3] <;> omega
      · refine ((((((hf.sI ?_).sI ?_).sI ?_).sI ?_).sI ?_).sI ?_).sI ?_ <;> (unfold clkD; omega)
    have key := hz (sI (sI (sI (sI (sI (sI (sI (sI σ 71 0 a) 71 1 b) 71 2 c) 71 3 0) 72 0 a) 72 1 b) 72 2 c) 72 3 0) (fun c' hc' => by rcases hc' with rfl | rfl <;> simp [gI_if])
      ((((((((Fr.rf.sI (by unfold clkD; omega)).sI (by unfold clkD; omega)).sI (by unfold clkD; omega)).sI (by unfold clkD; omega)).sI (by unfold clkD; omega)).sI (by unfold clkD; omega)).sI (by unfold clkD; omega)).sI (by unfold clkD; omega))
    refine w_X10_clocks hn ha hb hc ⟨fun q => by omega, fun _ => ⟨fun q => by omega, fun _ => ⟨fun q => by omega, fun _ => ⟨fun q => by omega, fun _ => ⟨fun q => by omega, fun _ => ⟨fun q => by omega, fun _ => ⟨fun _ => key, fun _ => ⟨fun _ => key, fun q => by omega⟩⟩⟩⟩⟩⟩⟩⟩
  · have z : (0 : Int) = 0 ∧ ClkR σ ∧ Fr clkD σ σ := ⟨rfl, h, Fr.rf⟩
    refine w_X10_clocks hn ha hb hc ⟨fun q => z, fun _ => ⟨fun q => z, fun _ => ⟨fun q => z, fun _ => ⟨fun q => z, fun _ => ⟨fun q => z, fun _ => ⟨fun q => z, fun _ => ⟨fun q => by omega, fun _ => ⟨fun q => by omega, fun q => z⟩⟩⟩⟩⟩⟩⟩⟩
theorem op_time (hn : 104 ≤ n) (h : ClkR σ) {a b : Int} (ha : R32 a) (hb : R32 b) : ZkI X M_X9_time (d + 3) n [.ref (zB X + 0), iV a, iV b] σ (fun v σ1 => ZkI X M_X10_time (d + 1) n [.ref (zB X + 73), iV a, iV b] σ1 (fun w σ2 => v = w ∧ σ2 = σ)) := by
  have hn' : 73 ≤ n := by omega
  refine w_X9_time hn' ha hb ((sp_isColour hn' ha).mono ?_)
  rintro v1 _ - ⟨rfl, e1⟩
  refine ⟨fun h1 => ?_, fun h1 => ?_⟩
  · have q : ¬ (a = 1 ∨ a = 2) := by rw [e1] at h1; split at h1 <;> omega
    refine w_X10_time hn ha hb ⟨fun _ => ⟨rfl, rfl⟩, fun _ => ⟨fun _ => by omega, fun _ => ⟨rfl, rfl⟩⟩⟩
  · have q : a = 1 ∨ a = 2 := by rw [e1] at h1; split at h1 <;> omega
    refine (sp_clockOf hn' q).mono ?_
    rintro o _ ⟨ho, rfl, eo⟩
    refine ⟨ho, ?_⟩
    obtain ⟨c, hc, ec⟩ : ∃ c : Nat, (c = 1 ∨ c = 2) ∧ a = (c : Int) := by
      rcases q with rfl | rfl
      · exact ⟨1, Or.inl rfl, rfl⟩
      · exact ⟨2, Or.inr rfl, rfl⟩
    have eo2 : o = 70 + c := by omega
    subst eo2
    have hk := h.1 c hc
    have ea : a.toNat = c := by omega
    have fin : ∀ v : Int, (b = 0 → v = gI σ (70 + c) 0) → (b = 1 → v = gI σ (70 + c) 1) → (b = 2 → v = gI σ (70 + c) 3) → ((b < 0 ∨ 2 < b) → v = -1) → ZkI X M_X10_time (d + 1) n [.ref (zB X + 73), iV a, iV b] σ (fun w σ2 => v = w ∧ σ2 = σ) := by
      intro v f0 f1 f2 f3
      refine w_X10_time hn ha hb ⟨fun z => by omega, fun _ => ⟨fun _ => ⟨fun n0 => ⟨fun n1 => ⟨fun n2 => ⟨f3 (by omega), rfl⟩, fun b2 => ⟨by omega, fun z => ⟨?_, rfl⟩, fun z => ⟨?_, rfl⟩⟩⟩, fun b1 => ⟨by omega, ?_, rfl⟩⟩, fun b0 => ⟨by omega, ?_, rfl⟩⟩, fun z => by omega⟩⟩
      · rw [ea, hk.2.2.2.2.2.1] at z; rw [f2 b2, z]
      · rw [ea, hk.2.2.2.2.2.1] at z; rw [f2 b2]; have := hk.2.2.1; omega
      · rw [ea, f1 b1, hk.2.2.2.2.1]
      · rw [ea, f0 b0, hk.2.2.2.1]
    refine w_X2_tell hn' ho hb ⟨fun b0 => fin _ (fun _ => rfl) (by omega) (by omega) (by omega), fun b1 => fin _ (by omega) (fun _ => rfl) (by omega) (by omega), fun b2 => ⟨fun z => fin _ (by omega) (by omega) (fun _ => z.symm) (by omega), fun z => fin _ (by omega) (by omega) (fun _ => by have := hk.2.2.1; omega) (by omega)⟩, fun b3 => fin _ (by omega) (by omega) (by omega) (fun _ => rfl)⟩
/-- one move of a clock: main, periods, seconds, t: main, periods, lost -/
def clkM (m t : Int) : Int := if t ≤ m then m - t else 0
def clkP (m p s t : Int) : Int := if t ≤ m then p else if p = 0 then 0 else if (t - m) / s < p then p - (t - m) / s else 0
def clkL (m p s t : Int) : Int := if t ≤ m then 0 else if clkP m p s t = 0 then 1 else 0
theorem sp_spend (hn : 73 ≤ n) {o : Nat} (ho : zIsC o) {m p s t : Int} (hm : gI σ o 0 = m) (hp : gI σ o 1 = p) (hs : gI σ o 2 = s) (hm1 : 0 ≤ m ∧ m ≤ 100000) (hp1 : 0 ≤ p ∧ p ≤ 100000) (hs1 : 0 ≤ s ∧ s ≤ 100000) (hps : 0 < p → 0 < s) (ht : 0 ≤ t ∧ t ≤ 100000) :
    ZkV X M_X2_spend (d + 1) n [.ref (zB X + o), iV t] σ (fun σ' => Fr (fun a i => a = o) σ σ' ∧ gI σ' o 0 = clkM m t ∧ gI σ' o 1 = clkP m p s t ∧ gI σ' o 2 = s ∧ gI σ' o 3 = clkL m p s t) := by
  have hle : t ≤ m ∨ ¬ t ≤ m := by omega
  refine w_X2_spend hn ho ⟨by omega, by omega⟩ ?_
  rw [hm, hp, hs]
  refine ⟨⟨by omega, by omega⟩, fun y ey => ⟨⟨by omega, by omega⟩, ?_⟩⟩
  have y0 : 0 ≤ y ∧ y ≤ 100000 := by rw [ey]; unfold maxI; split <;> omega
  have emx : maxI (m - t) 0 = clkM m t := by unfold maxI clkM; split <;> split <;> omega
  have eyt : (t ≤ m → y = 0) ∧ (¬ t ≤ m → y = t - m) := by rw [ey]; unfold maxI; split <;> omega
  have frs : ∀ (x y : Int), Fr (fun a i => a = o) σ (sI (sI σ o 0 x) o 3 y) := fun x y => by refine (Fr.rf.sI ?_).sI ?_ <;> rfl
  have frt : ∀ (x y z : Int), Fr (fun a i => a = o) σ (sI (sI (sI σ o 0 x) o 1 y) o 3 z) := fun x y z => by refine ((Fr.rf.sI ?_).sI ?_).sI ?_ <;> rfl
  have two : p = 0 → ((y ≤ 0 → Fr (fun a i => a = o) σ (sI (sI σ o 0 (maxI (m - t) 0)) o 3 0) ∧ gI (sI (sI σ o 0 (maxI (m - t) 0)) o 3 0) o 0 = clkM m t ∧ gI (sI (sI σ o 0 (maxI (m - t) 0)) o 3 0) o 1 = clkP m p s t ∧ gI (sI (sI σ o 0 (maxI (m - t) 0)) o 3 0) o 2 = s ∧ gI (sI (sI σ o 0 (maxI (m - t) 0)) o 3 0) o 3 = clkL m p s t) ∧
      (¬ y ≤ 0 → Fr (fun a i => a = o) σ (sI (sI σ o 0 (maxI (m - t) 0)) o 3 1) ∧ gI (sI (sI σ o 0 (maxI (m - t) 0)) o 3 1) o 0 = clkM m t ∧ gI (sI (sI σ o 0 (maxI (m - t) 0)) o 3 1) o 1 = clkP m p s t ∧ gI (sI (sI σ o 0 (maxI (m - t) 0)) o 3 1) o 2 = s ∧ gI (sI (sI σ o 0 (maxI (m - t) 0)) o 3 1) o 3 = clkL m p s t)) := by
    intro p0
    have eP : clkP m p s t = 0 := by unfold clkP; rw [p0]; split <;> simp
    refine ⟨fun q => ⟨frs _ _, ?_, ?_, ?_, ?_⟩, fun q => ⟨frs _ _, ?_, ?_, ?_, ?_⟩⟩ <;> simp [gI_if, emx, hp, hs, eP]
    · omega
    · unfold clkL; rw [if_pos (by omega)]
    · omega
    · unfold clkL; rw [eP, if_neg (by omega)]; rfl
  refine ⟨fun p0 => two p0, fun p0 => ⟨fun s0 => ⟨by omega, by omega, ?_⟩, fun s0 => by omega⟩⟩
  have hdiv : 0 ≤ y / s ∧ y / s ≤ y := ⟨Int.ediv_nonneg y0.1 hs1.1, Int.ediv_le_self _ y0.1⟩
  have eP : p - minI p (y / s) = clkP m p s t := by
    unfold clkP minI
    rcases hle with q | q
    · rw [if_pos q, eyt.1 q]; simp; omega
    · rw [if_neg q, if_neg p0, ← eyt.2 q]
      split <;> omega
  have eL : (clkP m p s t = 0 → clkL m p s t = 1) ∧ (¬ clkP m p s t = 0 → clkL m p s t = 0) := by
    unfold clkL
    refine ⟨fun z => ?_, fun z => ?_⟩
    · rw [if_neg, if_pos z]; intro q; unfold clkP at z; rw [if_pos q] at z; exact p0 z
    · split
      · rfl
      · rfl
  rw [eP]
  have eR : 0 ≤ clkP m p s t ∧ clkP m p s t ≤ 100000 := by rw [← eP]; unfold minI; split <;> omega
  refine ⟨⟨by omega, by omega⟩, ⟨by omega, by omega⟩, fun q => ⟨frt _ _ _, ?_, ?_, ?_, ?_⟩, fun q => ⟨frt _ _ _, ?_, ?_, ?_, ?_⟩⟩ <;> simp [gI_if, emx, hs]
  · exact (eL.2 q).symm
  · exact (eL.1 q).symm
theorem op_clock (hn : 104 ≤ n) (h : ClkR σ) {a t : Int} (ha : R32 a) (ht : R32 t) : ZkI X M_X9_clock (d + 3) n [.ref (zB X + 0), iV a, iV t] σ (fun v σ1 => ZkI X M_X10_clock (d + 1) n [.ref (zB X + 73), iV a, iV t] σ1 (fun w σ2 => v = w ∧ ClkR σ2 ∧ Fr clkD σ σ2)) := by
  have hn' : 73 ≤ n := by omega
  have b1 := h.1 1 (Or.inl rfl)
  have b2 := h.1 2 (Or.inr rfl)
  have l1 : gI σ 103 1 = gI σ 71 3 := b1.2.2.2.2.2.1
  have l2 : gI σ 103 2 = gI σ 72 3 := b2.2.2.2.2.2.1
  have none : (¬ (a = 1 ∨ a = 2) ∨ ¬ (0 ≤ t ∧ t ≤ 100000) ∨ ¬ gI σ 71 3 = 0 ∨ ¬ gI σ 72 3 = 0) → ZkI X M_X10_clock (d + 1) n [.ref (zB X + 73), iV a, iV t] σ (fun w σ2 => (-1 : Int) = w ∧ ClkR σ2 ∧ Fr clkD σ σ2) := by
    intro hz
    have z : (-1 : Int) = -1 ∧ ClkR σ ∧ Fr clkD σ σ := ⟨rfl, h, Fr.rf⟩
    refine w_X10_clock hn ha ht ⟨fun q => z, fun _ => ⟨fun q => z, fun _ => ⟨fun q => z, fun _ => ⟨fun q => z, fun _ => ⟨fun q => z, fun q1 => ⟨fun q2 => ?_, fun q => z⟩⟩⟩⟩⟩⟩
    rw [l1] at q1
    rw [l2] at q2
    omega
  refine w_X9_clock hn' ha ht ((sp_isColour hn' ha).mono ?_)
  rintro v1 _ - ⟨rfl, e1⟩
  refine ⟨fun h1 => none (Or.inl (by rw [e1] at h1; split at h1 <;> omega)), fun h1 => (sp_isSeconds hn' ht).mono ?_⟩
  rintro v2 _ - ⟨rfl, e2⟩
  refine ⟨fun h2 => none (Or.inr (Or.inl (by rw [e2] at h2; split at h2 <;> omega))), fun h2 => ⟨fun h3 => none (Or.inr (Or.inr (Or.inl h3))), fun h3 => ⟨fun h4 => ?_, fun h4 => none (Or.inr (Or.inr (Or.inr h4)))⟩⟩⟩
  have qa : a = 1 ∨ a = 2 := by rw [e1] at h1; split at h1 <;> omega
  have qt : 0 ≤ t ∧ t ≤ 100000 := by rw [e2] at h2; split at h2 <;> omega
  refine (sp_clockOf hn' qa).mono ?_
  rintro o _ ⟨ho, rfl, eo⟩
  refine ⟨ho, ?_⟩
  obtain ⟨c, hc, ec⟩ : ∃ c : Nat, (c = 1 ∨ c = 2) ∧ a = (c : Int) := by
    rcases qa with rfl | rfl
    · exact ⟨1, Or.inl rfl, rfl⟩
    · exact ⟨2, Or.inr rfl, rfl⟩
  have eo2 : o = 70 + c := by omega
  subst eo2
  have ea : a.toNat = c := by omega
  obtain ⟨k1, k2, k3, k4, k5, k6, k7, k8⟩ := h.1 c hc
  obtain ⟨m, hm⟩ : ∃ m, m = gI σ (70 + c) 0 := ⟨_, rfl⟩
  obtain ⟨p, hp⟩ : ∃ p, p = gI σ (70 + c) 1 := ⟨_, rfl⟩
  obtain ⟨s, hs⟩ : ∃ s, s = gI σ 73 51 := ⟨_, rfl⟩
  have hsb := h.2
  rw [← hm] at k1 k4
  rw [← hp] at k2 k5 k8
  rw [← hs] at k7 k8 hsb
  refine (sp_spend hn' ho hm.symm hp.symm k7 k1 k2 ⟨hsb.1, hsb.2⟩ k8 qt).mono ?_
  rintro σ1 ⟨hf, f0, f1, f2, f3⟩
  have g1 : gI σ1 101 c = m := (hf.I (by omega)).trans k4
  have g2 : gI σ1 102 c = p := (hf.I (by omega)).trans k5
  have g3 : gI σ1 73 51 = s := (hf.I (by omega)).trans hs.symm
  have c0 : 0 ≤ c := by omega
  have hc3 : (3 - c = 1 ∨ 3 - c = 2) ∧ 3 - c ≠ c := by omega
  obtain ⟨j1, j2, j3, j4, j5, j6, j7, j8⟩ := h.1 (3 - c) hc3.1
  have oth : ∀ i, gI σ1 (70 + (3 - c)) i = gI σ (70 + (3 - c)) i := fun i => hf.I (by omega)
  have o1 : ∀ a i, a = 101 ∨ a = 102 ∨ a = 103 → gI σ1 a i = gI σ a i := fun a i q => hf.I (by omega)
  -- what must come out on the other side
  have fin : ∀ (τ : ZSto) (r : Int), Fr (fun a i => (a = 101 ∨ a = 102 ∨ a = 103) ∧ i = c) σ1 τ → gI τ 101 c = clkM m t → gI τ 102 c = clkP m p s t → gI τ 103 c = clkL m p s t → r = clkL m p s t → ((gI σ1 (70 + c) 3 = 0 → (0 : Int) = r ∧ ClkR τ ∧ Fr clkD σ τ) ∧ (¬ gI σ1 (70 + c) 3 = 0 → (1 : Int) = r ∧ ClkR τ ∧ Fr clkD σ τ)) := by
    intro τ r hτ t1 t2 t3 hr
    have cl : clkL m p s t = 0 ∨ clkL m p s t = 1 := by unfold clkL; split; exact Or.inl rfl; split; exact Or.inr rfl; exact Or.inl rfl
    have cm : 0 ≤ clkM m t ∧ clkM m t ≤ 100000 := by unfold clkM; split <;> omega
    have cp : 0 ≤ clkP m p s t ∧ clkP m p s t ≤ p := by
      unfold clkP
      split
      · omega
      · split
        · omega
        · have : 0 ≤ (t - m) / s := Int.ediv_nonneg (by omega) (by omega)
          split <;> omega
    have main : ClkR τ ∧ Fr clkD σ τ := by
      refine ⟨⟨fun c' hc' => ?_, ?_, ?_⟩, (hf.mono (fun a i q => by unfold clkD; omega)).tr (hτ.mono (fun a i q => by unfold clkD; omega))⟩
      · have s1 : gI τ 73 51 = s := (hτ.I (by omega)).trans g3
        by_cases q : c' = c
        · subst q
          have e : ∀ i, gI τ (70 + c') i = gI σ1 (70 + c') i := fun i => hτ.I (by omega)
          rw [e 0, e 1, e 2, e 3, s1, t1, t2, t3, f0, f1, f2, f3]
          exact ⟨cm, by omega, cl, rfl, rfl, rfl, rfl, by omega⟩
        · have q' : c' = 3 - c := by omega
          subst q'
          have e : ∀ i, gI τ (70 + (3 - c)) i = gI σ (70 + (3 - c)) i := fun i => (hτ.I (by omega)).trans (oth i)
          have e2 : ∀ a, a = 101 ∨ a = 102 ∨ a = 103 → gI τ a (3 - c) = gI σ a (3 - c) := fun a z => (hτ.I (by omega)).trans (o1 a _ z)
          rw [e 0, e 1, e 2, e 3, e2 101 (by omega), e2 102 (by omega), e2 103 (by omega), s1]
          rw [← hs] at j7 j8
          exact ⟨j1, j2, j3, j4, j5, j6, j7, j8⟩
      · rw [(hτ.I (by omega)).trans g3]; exact hsb.1
      · rw [(hτ.I (by omega)).trans g3]; exact hsb.2
    rw [f3]
    exact ⟨fun z => ⟨by omega, main⟩, fun z => ⟨by omega, main⟩⟩
  have l3 : gI σ1 103 1 = 0 := by rw [o1 103 1 (by omega), l1]; exact h3
  have l4 : gI σ1 103 2 = 0 := by rw [o1 103 2 (by omega), l2]; exact h4
  have last : ∀ (v u : Int), 0 ≤ u → ¬ t ≤ m → clkP m p s t = (if u < p then p - u else 0) → (∀ (τ : ZSto) (r : Int), Fr (fun a i => (a = 101 ∨ a = 102 ∨ a = 103) ∧ i = c) σ1 τ → gI τ 101 c = clkM m t → gI τ 102 c = clkP m p s t → gI τ 103 c = clkL m p s t → r = clkL m p s t → v = r ∧ ClkR τ ∧ Fr clkD σ τ) → L_X10_clock_101 X d n (zpI (fun w σ2 => v = w ∧ ClkR σ2 ∧ Fr clkD σ σ2)) a u (sI σ1 101 c 0) := by
    intro v u hu q eu hv
    have e2 : gI (sI σ1 101 c 0) 102 c = p := by simp [gI_if, g2]
    have eM : clkM m t = 0 := by unfold clkM; rw [if_neg q]
    refine b_X10_clock_101 hn ?_
    rw [ea, e2]
    refine ⟨by omega, fun z => ?_, fun z => ⟨⟨by omega, by omega⟩, fun z2 => ?_, fun z2 => by omega⟩⟩
    · rw [if_neg (by omega)] at eu
      have eL : clkL m p s t = 1 := by unfold clkL; rw [if_neg q, if_pos eu]
      refine hv _ _ (((Fr.rf.sI (by omega)).sI (by omega)).sI (by omega)) ?_ ?_ ?_ eL.symm
      · simp [gI_if, eM]
      · simp [gI_if, eu]
      · simp [gI_if, eL]
    · rw [if_pos (by omega)] at eu
      have eL : clkL m p s t = 0 := by unfold clkL; rw [if_neg q, if_neg (by omega)]
      refine hv _ _ (((Fr.rf.sI (by omega)).sI (by omega)).sI (by omega)) ?_ ?_ ?_ eL.symm
      · simp [gI_if, eM]
      · simp [gI_if, eu]
      · simp [gI_if, eL]
  have model : ∀ v : Int, (∀ (τ : ZSto) (r : Int), Fr (fun a i => (a = 101 ∨ a = 102 ∨ a = 103) ∧ i = c) σ1 τ → gI τ 101 c = clkM m t → gI τ 102 c = clkP m p s t → gI τ 103 c = clkL m p s t → r = clkL m p s t → v = r ∧ ClkR τ ∧ Fr clkD σ τ) → ZkI X M_X10_clock (d + 1) n [.ref (zB X + 73), iV a, iV t] σ1 (fun w σ2 => v = w ∧ ClkR σ2 ∧ Fr clkD σ σ2) := by
    intro v hv
    refine w_X10_clock hn ha ht ⟨fun q => by omega, fun _ => ⟨fun q => by omega, fun _ => ⟨fun q => by omega, fun _ => ⟨fun q => by omega, fun _ => ⟨fun q => by omega, fun _ => ⟨fun _ => ?_, fun q => by omega⟩⟩⟩⟩⟩⟩
    rw [ea, g1]
    refine ⟨by omega, fun q => ⟨⟨by omega, by omega⟩, ?_⟩, fun q => ⟨⟨by omega, by omega⟩, b_X10_clock_63 hn ?_⟩⟩
    · refine hv _ _ (Fr.rf.sI (by omega)) ?_ ?_ ?_ ?_
      · simp [gI_if, clkM, q]
      · simp [gI_if, clkP, q, g2]
      · simp [gI_if, clkL, q]; rcases hc with rfl | rfl <;> assumption
      · simp [clkL, q]
    · rw [ea, g1, g2, g3]
      have e0 : m - (t - (t - m)) = 0 := by omega
      rw [e0]
      refine ⟨by omega, ⟨by omega, by omega⟩, fun z => ⟨fun zp => ?_, fun zp => ?_⟩, fun z => by omega⟩
      · have hd : 0 ≤ (t - m) / s ∧ (t - m) / s ≤ t - m := ⟨Int.ediv_nonneg (by omega) (by omega), Int.ediv_le_self _ (by omega)⟩
        refine ⟨by omega, by omega, ⟨by omega, by omega⟩, last v _ hd.1 q ?_ hv⟩
        unfold clkP
        rw [if_neg q, if_neg zp]
      · refine last v 0 (by omega) q ?_ hv
        unfold clkP
        rw [if_neg q, if_pos zp, if_neg (by omega)]
  exact ⟨fun z => model 0 (fun τ r a1 a2 a3 a4 a5 => (fin τ r a1 a2 a3 a4 a5).1 z), fun z => model 1 (fun τ r a1 a2 a3 a4 a5 => (fin τ r a1 a2 a3 a4 a5).2 z)⟩
end ZS
