/-! ===== what a call leaves as it was ===== -/
def Fr (W : Nat → Nat → Prop) (σ σ' : ZSto) : Prop := ∀ a i, ¬ W a i → gI σ' a i = gI σ a i ∧ gL σ' a i = gL σ a i ∧ gP σ' a i = gP σ a i
theorem Fr.rf {W : Nat → Nat → Prop} {σ : ZSto} : Fr W σ σ := fun _ _ _ => ⟨rfl, rfl, rfl⟩
theorem Fr.tr {W : Nat → Nat → Prop} {σ σ1 σ2 : ZSto} (h1 : Fr W σ σ1) (h2 : Fr W σ1 σ2) : Fr W σ σ2 := fun a i h => by
  obtain ⟨a1, a2, a3⟩ := h1 a i h
  obtain ⟨b1, b2, b3⟩ := h2 a i h
  exact ⟨b1.trans a1, b2.trans a2, b3.trans a3⟩
theorem Fr.mono {W W' : Nat → Nat → Prop} {σ σ' : ZSto} (h : Fr W σ σ') (hw : ∀ a i, W a i → W' a i) : Fr W' σ σ' := fun a i q => h a i (fun z => q (hw a i z))
theorem Fr.I {W : Nat → Nat → Prop} {σ σ' : ZSto} (h : Fr W σ σ') {a i : Nat} (q : ¬ W a i) : gI σ' a i = gI σ a i := (h a i q).1
theorem Fr.L {W : Nat → Nat → Prop} {σ σ' : ZSto} (h : Fr W σ σ') {a i : Nat} (q : ¬ W a i) : gL σ' a i = gL σ a i := (h a i q).2.1
theorem Fr.P {W : Nat → Nat → Prop} {σ σ' : ZSto} (h : Fr W σ σ') {a i : Nat} (q : ¬ W a i) : gP σ' a i = gP σ a i := (h a i q).2.2
theorem Fr.sI {W : Nat → Nat → Prop} {σ σ' : ZSto} {a i : Nat} {x : Int} (h : Fr W σ σ') (hw : W a i) : Fr W σ (sI σ' a i x) := fun b j q => by
  obtain ⟨h1, h2, h3⟩ := h b j q
  refine ⟨?_, h2, h3⟩
  rw [gI_if, if_neg, h1]
  rintro ⟨rfl, rfl⟩
  exact q hw
theorem Fr.sL {W : Nat → Nat → Prop} {σ σ' : ZSto} {a i : Nat} {x : Int64} (h : Fr W σ σ') (hw : W a i) : Fr W σ (sL σ' a i x) := fun b j q => by
  obtain ⟨h1, h2, h3⟩ := h b j q
  refine ⟨h1, ?_, h3⟩
  rw [gL_if, if_neg, h2]
  rintro ⟨rfl, rfl⟩
  exact q hw
theorem gP_if (σ : ZSto) (a i b j : Nat) (x : Option Nat) : gP (sP σ a i x) b j = if b = a ∧ j = i then x else gP σ b j := rfl
theorem Fr.sP {W : Nat → Nat → Prop} {σ σ' : ZSto} {a i : Nat} {x : Option Nat} (h : Fr W σ σ') (hw : W a i) : Fr W σ (sP σ' a i x) := fun b j q => by
  obtain ⟨h1, h2, h3⟩ := h b j q
  refine ⟨h1, h2, ?_⟩
  rw [gP_if, if_neg, h3]
  rintro ⟨rfl, rfl⟩
  exact q hw
theorem Fr.cpI {W : Nat → Nat → Prop} {σ σ' : ZSto} {a b : Nat} {sp dp m : Int} (h : Fr W σ σ') (hw : ∀ j, dp.toNat ≤ j → j < dp.toNat + m.toNat → W b j) : Fr W σ (cpI σ' a b sp dp m) := fun c j q => by
  obtain ⟨h1, h2, h3⟩ := h c j q
  refine ⟨?_, h2, h3⟩
  rw [gI_cpI, if_neg, h1]
  rintro ⟨rfl, q1, q2⟩
  exact q (hw j q1 q2)
theorem Fr.cpL {W : Nat → Nat → Prop} {σ σ' : ZSto} {a b : Nat} {sp dp m : Int} (h : Fr W σ σ') (hw : ∀ j, dp.toNat ≤ j → j < dp.toNat + m.toNat → W b j) : Fr W σ (cpL σ' a b sp dp m) := fun c j q => by
  obtain ⟨h1, h2, h3⟩ := h c j q
  refine ⟨h1, ?_, h3⟩
  rw [gL_cpL, if_neg, h2]
  rintro ⟨rfl, q1, q2⟩
  exact q (hw j q1 q2)
/-- the answer of a call whose store stays -/
theorem r32_i {a b x : Int} (h : a ≤ x) (h2 : x ≤ b) (ha : -2147483648 ≤ a) (hb : b < 2147483648) : R32 x := ⟨by omega, by omega⟩
/-! ===== the small static methods ===== -/
section ZS
variable {X : ZX} {d n : Nat} {σ : ZSto}
theorem sp_isSeconds (hn : 73 ≤ n) {x : Int} (hx : R32 x) : ZkZ X M_X9_isSeconds (d + 1) n [iV x] σ (fun v σ' => σ = σ' ∧ v = if 0 ≤ x ∧ x ≤ 100000 then 1 else 0) := by
  refine w_X9_isSeconds hn hx ⟨fun h => ⟨rfl, ?_⟩, fun h => ⟨fun h2 => ⟨rfl, ?_⟩, fun h2 => ⟨rfl, ?_⟩⟩⟩
  · rw [if_neg (by omega)]
  · rw [if_neg (by omega)]
  · rw [if_pos (by omega)]
theorem sp_isColour (hn : 73 ≤ n) {x : Int} (hx : R32 x) : ZkZ X M_X9_isColour (d + 1) n [iV x] σ (fun v σ' => σ = σ' ∧ v = if x = 1 ∨ x = 2 then 1 else 0) := by
  refine w_X9_isColour hn hx ⟨fun h => ⟨rfl, ?_⟩, fun h => ⟨fun h2 => ⟨rfl, ?_⟩, fun h2 => ⟨rfl, ?_⟩⟩⟩
  · rw [if_pos (by omega)]
  · rw [if_neg (by omega)]
  · rw [if_pos (by omega)]
theorem sp_isSize (hn : 73 ≤ n) {x : Int} (hx : R32 x) : ZkZ X M_X9_isSize (d + 1) n [iV x] σ (fun v σ' => σ = σ' ∧ v = if 3 ≤ x ∧ x ≤ 9 then 1 else 0) := by
  refine w_X9_isSize hn hx ⟨fun h => ⟨rfl, ?_⟩, fun h => ⟨fun h2 => ⟨rfl, ?_⟩, fun h2 => ⟨rfl, ?_⟩⟩⟩
  · rw [if_neg (by omega)]
  · rw [if_neg (by omega)]
  · rw [if_pos (by omega)]
theorem sp_isKomi (hn : 73 ≤ n) {x : Int} (hx : R32 x) : ZkZ X M_X9_isKomi (d + 1) n [iV x] σ (fun v σ' => σ = σ' ∧ v = if -200 ≤ x ∧ x ≤ 200 then 1 else 0) := by
  refine w_X9_isKomi hn hx ⟨fun h => ⟨rfl, ?_⟩, fun h => ⟨fun h2 => ⟨rfl, ?_⟩, fun h2 => ⟨rfl, ?_⟩⟩⟩
  · rw [if_neg (by omega)]
  · rw [if_neg (by omega)]
  · rw [if_pos (by omega)]
theorem sp_otherColour (hn : 73 ≤ n) {x : Int} (hx : x = 1 ∨ x = 2) : ZkI X M_X9_otherColour (d + 1) n [iV x] σ (fun v σ' => σ = σ' ∧ v = 3 - x) := by
  refine w_X9_otherColour hn ⟨by omega, by omega⟩ ⟨fun h => ⟨rfl, by omega⟩, fun h => ⟨rfl, by omega⟩⟩
theorem sp_clockOf (hn : 73 ≤ n) {x : Int} (hx : x = 1 ∨ x = 2) : ZkR X M_X9_clockOf (d + 1) n [.ref (zB X + 0), iV x] σ (fun v σ' => zIsC v ∧ σ = σ' ∧ (v : Int) = 70 + x) := by
  refine w_X9_clockOf hn ⟨by omega, by omega⟩ ⟨fun h => ⟨Or.inr rfl, rfl, by omega⟩, fun h => ⟨Or.inl rfl, rfl, by omega⟩⟩
/-! ===== clocks ===== -/
/-- clocks of both sides hold the same -/
def ClkR (σ : ZSto) : Prop := (∀ c : Nat, c = 1 ∨ c = 2 → (0 ≤ gI σ (70 + c) 0 ∧ gI σ (70 + c) 0 ≤ 100000) ∧ (0 ≤ gI σ (70 + c) 1 ∧ gI σ (70 + c) 1 ≤ 100000) ∧ (gI σ (70 + c) 3 = 0 ∨ gI σ (70 + c) 3 = 1) ∧ gI σ 101 c = gI σ (70 + c) 0 ∧ gI σ 102 c = gI σ (70 + c) 1 ∧ gI σ 103 c = gI σ (70 + c) 3 ∧ gI σ (70 + c) 2 = gI σ 73 51 ∧ (0 < gI σ (70 + c) 1 → 0 < gI σ 73 51)) ∧ 0 ≤ gI σ 73 51 ∧ gI σ 73 51 ≤ 100000
def clkD (a i : Nat) : Prop := a = 71 ∨ a = 72 ∨ a = 101 ∨ a = 102 ∨ a = 103 ∨ (a = 73 ∧ i = 51)
theorem ClkR.kept {W : Nat → Nat → Prop} {σ σ' : ZSto} (h : ClkR σ) (hf : Fr W σ σ') (hw : ∀ a i, clkD a i → ¬ W a i) : ClkR σ' := by
  have e : ∀ a i, clkD a i → gI σ' a i = gI σ a i := fun a i q => hf.I (hw a i q)
  have e1 : gI σ' 73 51 = gI σ 73 51 := e _ _ (by unfold clkD; omega)
  refine ⟨fun c hc => ?_, by rw [e1]; exact h.2.1, by rw [e1]; exact h.2.2⟩
  have := h.1 c hc
  rw [e1, e 101 c (by unfold clkD; omega), e 102 c (by unfold clkD; omega), e 103 c (by unfold clkD; omega), e (70 + c) 0 (by unfold clkD; omega), e (70 + c) 1 (by unfold clkD; omega), e (70 + c) 2 (by unfold clkD; omega), e (70 + c) 3 (by unfold clkD; omega)]
  exact this
/-- clocks(): the class -/
theorem sx_clocks (hn : 73 ≤ n) {a b c : Int} (ha : R32 a) (hb : R32 b) (hc : R32 c) : ZkZ X M_X9_clocks (d + 3) n [.ref (zB X + 0), iV a, iV b, iV c] σ (fun v σ' =>
    ((0 ≤ a ∧ a ≤ 100000 ∧ 0 ≤ b ∧ b ≤ 100000 ∧ 0 ≤ c ∧ c ≤ 100000 ∧ ¬ (0 < b ∧ c = 0)) ∧ v = 1 ∧ σ' = sI (sI (sI (sI (sI (sI (sI (sI σ 71 0 a) 71 1 b) 71 2 c) 71 3 0) 72 0 a) 72 1 b) 72 2 c) 72 3 0) ∨
    (¬ (0 ≤ a ∧ a ≤ 100000 ∧ 0 ≤ b ∧ b ≤ 100000 ∧ 0 ≤ c ∧ c ≤ 100000 ∧ ¬ (0 < b ∧ c = 0)) ∧ v = 0 ∧ σ = σ')) := by
  refine w_X9_clocks hn ha hb hc ((sp_isSeconds hn ha).mono ?_)
  rintro v1 _ - ⟨rfl, e1⟩
  refine ⟨fun h1 => Or.inr ⟨?_, rfl, rfl⟩, fun h1 => (sp_isSeconds hn hb).mono ?_⟩
  · rw [e1] at h1; split at h1 <;> omega
  rintro v2 _ - ⟨rfl, e2⟩
  refine ⟨fun h2 => Or.inr ⟨?_, rfl, rfl⟩, fun h2 => (sp_isSeconds hn hc).mono ?_⟩
  · rw [e2] at h2; split at h2 <;> omega
  rintro v3 _ - ⟨rfl, e3⟩
  have q1 : 0 ≤ a ∧ a ≤ 100000 := by rw [e1] at h1; split at h1 <;> omega
  have q2 : 0 ≤ b ∧ b ≤ 100000 := by rw [e2] at h2; split at h2 <;> omega
  refine ⟨fun h3 => ?_, fun h3 => Or.inr ⟨?_, rfl, rfl⟩⟩
  · have q3 : 0 ≤ c ∧ c ≤ 100000 := by rw [e3] at h3; split at h3 <;> omega
    refine ⟨fun h4 => w_X2_wind hn (Or.inl rfl) ha hb hc (w_X2_wind hn (Or.inr rfl) ha hb hc (Or.inl ⟨by omega, rfl, rfl⟩)), fun h4 => ⟨fun h5 => w_X2_wind hn (Or.inl rfl) ha hb hc (w_X2_wind hn (Or.inr rfl) ha hb hc (Or.inl ⟨by omega, rfl, rfl⟩)), fun h5 => Or.inr ⟨by omega, rfl, rfl⟩⟩⟩
  · rw [e3] at h3; split at h3 <;> omega
end ZS
