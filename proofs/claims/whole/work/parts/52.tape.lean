/-! ===== bytes ===== -/
theorem w8_shr_eq (x : Int) (k : Nat) (hk : k = 0 ∨ k = 8 ∨ k = 16 ∨ k = 24) : w8 (shrI x (k : Int)) = w8 (ushrI x (k : Int)) := by
  obtain ⟨v, hv⟩ : ∃ v : Int32, v = Int32.ofInt x := ⟨_, rfl⟩
  have e1 : shrI x (k : Int) = v.toInt >>> k := by
    unfold shrI
    rw [← hv]
    exact pk_shr v _ k (by rcases hk with rfl | rfl | rfl | rfl <;> decide)
  have e2 : (((v.toUInt32 >>> ((Int32.ofInt (k : Int)).toUInt32 &&& Int32.toUInt32 31)).toInt32).toBitVec.toNat : Int) = (v.toBitVec.toNat : Int) / 2 ^ k := by
    rw [pk_ushr v _ k (by rcases hk with rfl | rfl | rfl | rfl <;> decide)]
    simp
  have e3 : ushrI x (k : Int) = ((v.toBitVec.toNat : Int) / 2 ^ k).bmod (2 ^ 32) := by
    unfold ushrI
    rw [← hv, ← e2]
    exact BitVec.toInt_eq_toNat_bmod _
  have e4 : v.toInt = (v.toBitVec.toNat : Int).bmod (2 ^ 32) := BitVec.toInt_eq_toNat_bmod _
  have hlt : v.toBitVec.toNat < 2 ^ 32 := v.toBitVec.isLt
  rw [w8_eq, w8_eq, e1, e3, e4, Int.shiftRight_eq_div_pow, Int.bmod_bmod_of_dvd (by decide)]
  generalize v.toBitVec.toNat = w at hlt
  rcases hk with rfl | rfl | rfl | rfl <;> simp only [Int.bmod_def] <;> split <;> split <;> split <;> omega
/-- byte b (0 the highest) of a number -/
def nb8 (x : Int) (b : Nat) : Int := w8 (ushrI x ((24 - 8 * b : Nat) : Int))
def fd5 (x1 x2 x3 x4 x5 : Int) (j : Nat) : Int := if j < 4 then nb8 x1 j else if j < 8 then nb8 x2 (j - 4) else if j < 12 then nb8 x3 (j - 8) else if j < 16 then nb8 x4 (j - 12) else nb8 x5 (j - 16)
/-- the bytes at a from L on, k of them, are f; the others as they were -/
def App (a L k : Nat) (f : Nat → Int) (σ σ' : ZSto) : Prop := ∀ i : Nat, gI σ' a i = if L ≤ i ∧ i < L + k then f (i - L) else gI σ a i
def TapeR (σ : ZSto) : Prop := (0 ≤ gI σ 29 1 ∧ gI σ 29 1 ≤ 1500) ∧ gI σ 73 20 = gI σ 29 1 ∧ ∀ i : Nat, (i : Int) < gI σ 29 1 → gI σ 88 i = gI σ 30 i
def tapeD (a i : Nat) : Prop := a = 30 ∨ a = 88 ∨ (a = 29 ∧ i = 1) ∨ (a = 73 ∧ i = 20)
theorem TapeR.kept {W : Nat → Nat → Prop} {σ σ' : ZSto} (h : TapeR σ) (hf : Fr W σ σ') (hw : ∀ a i, tapeD a i → ¬ W a i) : TapeR σ' := by
  have e : ∀ a i, tapeD a i → gI σ' a i = gI σ a i := fun a i q => hf.I (hw a i q)
  have e1 := e 29 1 (by unfold tapeD; omega)
  refine ⟨by rw [e1]; exact h.1, by rw [e1, e 73 20 (by unfold tapeD; omega)]; exact h.2.1, fun i hi => ?_⟩
  rw [e1] at hi
  rw [e 88 i (by unfold tapeD; omega), e 30 i (by unfold tapeD; omega)]
  exact h.2.2 i hi
section ZT
variable {X : ZX} {d n : Nat} {σ : ZSto}
theorem sp_addByte (hn : 73 ≤ n) {o : Nat} (ho : zIsY o) {L : Nat} {x : Int} (hx : R32 x) (hL : gI σ o 1 = (L : Int)) (hc : L < zYn o) :
    ZkV X M_X1_addByte (d + 1) n [.ref (zB X + o), iV x] σ (fun σ' => σ' = sI (sI σ (o + 1) L (w8 x)) o 1 ((L : Int) + 1)) := by
  have hz : zYn o ≤ 4096 := by unfold zYn; split <;> omega
  refine w_X1_addByte hn ho hx ?_
  rw [hL]
  exact ⟨fun q => by omega, fun _ => ⟨fun q => by omega, fun _ => ⟨by omega, ⟨by omega, by omega⟩, by simp⟩⟩⟩
theorem sp_addNumber (hn : 73 ≤ n) {o : Nat} (ho : zIsY o) {L : Nat} {x : Int} (hx : R32 x) (hL : gI σ o 1 = (L : Int)) (hc : L + 4 ≤ zYn o) :
    ZkV X M_X1_addNumber (d + 2) n [.ref (zB X + o), iV x] σ (fun σ' => Fr (fun a i => a = o + 1 ∨ (a = o ∧ i = 1)) σ σ' ∧ gI σ' o 1 = (L : Int) + 4 ∧ App (o + 1) L 4 (nb8 x) σ σ') := by
  refine w_X1_addNumber hn ho hx ?_
  have r : ∀ k : Int, R32 (ushrI x k) := fun k => r32_ushr x k
  refine b_X1_addNumber_3 hn ho ⟨fun q => by omega, fun _ => (sp_addByte hn ho (r _) hL (by omega)).mono ?_⟩
  rintro _ rfl
  refine ⟨⟨by omega, by omega⟩, b_X1_addNumber_3 hn ho ⟨fun q => by omega, fun _ => (sp_addByte hn ho (r _) (L := L + 1) (by simp [gI_if]) (by omega)).mono ?_⟩⟩
  rintro _ rfl
  refine ⟨⟨by omega, by omega⟩, b_X1_addNumber_3 hn ho ⟨fun q => by omega, fun _ => (sp_addByte hn ho (r _) (L := L + 2) (by simp [gI_if]; omega) (by omega)).mono ?_⟩⟩
  rintro _ rfl
  refine ⟨⟨by omega, by omega⟩, b_X1_addNumber_3 hn ho ⟨fun q => by omega, fun _ => (sp_addByte hn ho (r _) (L := L + 3) (by simp [gI_if]; omega) (by omega)).mono ?_⟩⟩
  rintro _ rfl
  refine ⟨⟨by omega, by omega⟩, b_X1_addNumber_3 hn ho ⟨fun _ => ⟨?_, ?_, ?_⟩, fun q => by omega⟩⟩
  · refine (((((((Fr.rf.sI ?_).sI ?_).sI ?_).sI ?_).sI ?_).sI ?_).sI ?_).sI ?_ <;> omega
  · simp [gI_if]; omega
  · intro i
    have h1 : o + 1 ≠ o := by omega
    simp only [gI_if, h1, false_and, if_false, true_and]
    by_cases q : L ≤ i ∧ i < L + 4
    · rw [if_pos q]
      have : i = L ∨ i = L + 1 ∨ i = L + 2 ∨ i = L + 3 := by omega
      rcases this with rfl | rfl | rfl | rfl
      · simp [nb8]
      · simp [nb8]
      · simp [nb8]
      · simp [nb8]
    · rw [if_neg q, if_neg (by omega), if_neg (by omega), if_neg (by omega), if_neg (by omega)]
theorem sm_four (hn : 104 ≤ n) {L : Nat} {x : Int} (hx : R32 x) (hL : gI σ 73 20 = (L : Int)) (hc : L + 4 ≤ 1500) :
    ZkV X M_X10_four (d + 1) n [.ref (zB X + 73), iV x] σ (fun σ' => Fr (fun a i => a = 88 ∨ (a = 73 ∧ i = 20)) σ σ' ∧ gI σ' 73 20 = (L : Int) + 4 ∧ App 88 L 4 (nb8 x) σ σ') := by
  refine w_X10_four hn hx (b_X10_four_3 hn ?_)
  rw [hL]
  refine ⟨fun q => by omega, fun _ => ⟨by omega, ⟨by omega, by omega⟩, ⟨by omega, by omega⟩, b_X10_four_3 hn ⟨fun q => by omega, fun _ => ?_⟩⟩⟩
  simp only [gI_same]
  refine ⟨by omega, ⟨by omega, by omega⟩, ⟨by omega, by omega⟩, b_X10_four_3 hn ⟨fun q => by omega, fun _ => ?_⟩⟩
  simp only [gI_same]
  refine ⟨by omega, ⟨by omega, by omega⟩, ⟨by omega, by omega⟩, b_X10_four_3 hn ⟨fun q => by omega, fun _ => ?_⟩⟩
  simp only [gI_same]
  refine ⟨by omega, ⟨by omega, by omega⟩, ⟨by omega, by omega⟩, b_X10_four_3 hn ⟨fun _ => ⟨?_, ?_, ?_⟩, fun q => by omega⟩⟩
  · refine (((((((Fr.rf.sI ?_).sI ?_).sI ?_).sI ?_).sI ?_).sI ?_).sI ?_).sI ?_ <;> omega
  · simp [gI_if]; omega
  · intro i
    have s24 := w8_shr_eq x 24 (by omega)
    have s16 := w8_shr_eq x 16 (by omega)
    have s8 := w8_shr_eq x 8 (by omega)
    have s0 := w8_shr_eq x 0 (by omega)
    have t1 : ((L : Int)).toNat = L := by omega
    have t2 : ((L : Int) + 1).toNat = L + 1 := by omega
    have t3 : ((L : Int) + 1 + 1).toNat = L + 2 := by omega
    have t4 : ((L : Int) + 1 + 1 + 1).toNat = L + 3 := by omega
    have h1 : (88 : Nat) ≠ 73 := by omega
    simp only [gI_if, h1, false_and, if_false, true_and, t1, t2, t3, t4]
    by_cases q : L ≤ i ∧ i < L + 4
    · rw [if_pos q]
      have : i = L ∨ i = L + 1 ∨ i = L + 2 ∨ i = L + 3 := by omega
      rcases this with rfl | rfl | rfl | rfl
      · simp [nb8]; exact s24
      · simp [nb8]; exact s16
      · simp [nb8]; exact s8
      · simp [nb8]; exact s0
    · rw [if_neg q, if_neg (by omega), if_neg (by omega), if_neg (by omega), if_neg (by omega)]
theorem App.cat {a L k j : Nat} {f : Nat → Int} {σ σ1 σ2 : ZSto} (h1 : App a L k f σ σ1) (h2 : App a (L + k) j (fun i => f (k + i)) σ1 σ2) : App a L (k + j) f σ σ2 := by
  intro i
  rw [h2 i]
  by_cases q : L + k ≤ i ∧ i < L + k + j
  · rw [if_pos q, if_pos (by omega)]
    show f (k + (i - (L + k))) = f (i - L)
    congr 1; omega
  · rw [if_neg q, h1 i]
    by_cases q2 : L ≤ i ∧ i < L + k
    · rw [if_pos q2, if_pos (by omega)]
    · rw [if_neg q2, if_neg (by omega)]
theorem App.congr {a L k : Nat} {f g : Nat → Int} {σ σ1 : ZSto} (h : App a L k f σ σ1) (he : ∀ i, i < k → f i = g i) : App a L k g σ σ1 := by
  intro i
  rw [h i]
  by_cases q : L ≤ i ∧ i < L + k
  · rw [if_pos q, if_pos q, he _ (by omega)]
  · rw [if_neg q, if_neg q]
theorem App.five {a L : Nat} {x1 x2 x3 x4 x5 : Int} {σ σ1 σ2 σ3 σ4 σ5 : ZSto} (h1 : App a L 4 (nb8 x1) σ σ1) (h2 : App a (L + 4) 4 (nb8 x2) σ1 σ2) (h3 : App a (L + 8) 4 (nb8 x3) σ2 σ3) (h4 : App a (L + 12) 4 (nb8 x4) σ3 σ4) (h5 : App a (L + 16) 4 (nb8 x5) σ4 σ5) : App a L 20 (fd5 x1 x2 x3 x4 x5) σ σ5 := by
  have f : ∀ i, i < 4 → fd5 x1 x2 x3 x4 x5 i = nb8 x1 i ∧ fd5 x1 x2 x3 x4 x5 (4 + i) = nb8 x2 i ∧ fd5 x1 x2 x3 x4 x5 (8 + i) = nb8 x3 i ∧ fd5 x1 x2 x3 x4 x5 (12 + i) = nb8 x4 i ∧ fd5 x1 x2 x3 x4 x5 (16 + i) = nb8 x5 i := by
    intro i hi
    unfold fd5
    refine ⟨?_, ?_, ?_, ?_, ?_⟩
    · rw [if_pos hi]
    · rw [if_neg (by omega), if_pos (by omega)]; congr 1; omega
    · rw [if_neg (by omega), if_neg (by omega), if_pos (by omega)]; congr 1; omega
    · rw [if_neg (by omega), if_neg (by omega), if_neg (by omega), if_pos (by omega)]; congr 1; omega
    · rw [if_neg (by omega), if_neg (by omega), if_neg (by omega), if_neg (by omega)]; congr 1; omega
  have a1 := (h1.congr (g := fd5 x1 x2 x3 x4 x5) (fun i hi => (f i hi).1.symm)).cat (h2.congr (fun i hi => (f i hi).2.1.symm))
  have a2 := a1.cat (h3.congr (fun i hi => (f i hi).2.2.1.symm))
  have a3 := a2.cat (h4.congr (fun i hi => (f i hi).2.2.2.1.symm))
  exact a3.cat (h5.congr (fun i hi => (f i hi).2.2.2.2.symm))
theorem sx_feed (hn : 73 ≤ n) {L : Nat} {x1 x2 x3 x4 x5 : Int} (h1 : R32 x1) (h2 : R32 x2) (h3 : R32 x3) (h4 : R32 x4) (h5 : R32 x5) (hL : gI σ 29 1 = (L : Int)) (hL2 : L ≤ 1500) :
    ZkI X M_X9_feed (d + 3) n [.ref (zB X + 0), iV x1, iV x2, iV x3, iV x4, iV x5] σ (fun v σ' => (L + 20 ≤ 1500 ∧ v = L + 20 ∧ Fr (fun a i => a = 30 ∨ (a = 29 ∧ i = 1)) σ σ' ∧ gI σ' 29 1 = (L : Int) + 20 ∧ App 30 L 20 (fd5 x1 x2 x3 x4 x5) σ σ') ∨ (¬ L + 20 ≤ 1500 ∧ v = -1 ∧ σ = σ')) := by
  have ho : zIsY 29 := Or.inl rfl
  have hz : zYn 29 = 1500 := rfl
  refine w_X9_feed hn h1 h2 h3 h4 h5 ?_
  rw [hL]
  refine ⟨⟨by omega, by omega⟩, fun q => (sp_addNumber hn ho h1 hL (by omega)).mono ?_, fun q => Or.inr ⟨by omega, rfl, rfl⟩⟩
  rintro σ1 ⟨f1, l1, a1⟩
  refine (sp_addNumber hn ho h2 (L := L + 4) (by rw [l1]; simp) (by omega)).mono ?_
  rintro σ2 ⟨f2, l2, a2⟩
  refine (sp_addNumber hn ho h3 (L := L + 8) (by rw [l2]; simp; omega) (by omega)).mono ?_
  rintro σ3 ⟨f3, l3, a3⟩
  refine (sp_addNumber hn ho h4 (L := L + 12) (by rw [l3]; simp; omega) (by omega)).mono ?_
  rintro σ4 ⟨f4, l4, a4⟩
  refine (sp_addNumber hn ho h5 (L := L + 16) (by rw [l4]; simp; omega) (by omega)).mono ?_
  rintro σ5 ⟨f5, l5, a5⟩
  have l6 : gI σ5 29 1 = (L : Int) + 20 := by rw [l5]; simp; omega
  exact Or.inl ⟨by omega, l6, (((f1.tr f2).tr f3).tr f4).tr f5, l6, App.five a1 a2 a3 a4 a5⟩
theorem sm_feed (hn : 104 ≤ n) {L : Nat} {x1 x2 x3 x4 x5 : Int} (h1 : R32 x1) (h2 : R32 x2) (h3 : R32 x3) (h4 : R32 x4) (h5 : R32 x5) (hL : gI σ 73 20 = (L : Int)) (hL2 : L ≤ 1500) :
    ZkI X M_X10_feed (d + 2) n [.ref (zB X + 73), iV x1, iV x2, iV x3, iV x4, iV x5] σ (fun v σ' => (L + 20 ≤ 1500 ∧ v = L + 20 ∧ Fr (fun a i => a = 88 ∨ (a = 73 ∧ i = 20)) σ σ' ∧ gI σ' 73 20 = (L : Int) + 20 ∧ App 88 L 20 (fd5 x1 x2 x3 x4 x5) σ σ') ∨ (¬ L + 20 ≤ 1500 ∧ v = -1 ∧ σ = σ')) := by
  refine w_X10_feed hn h1 h2 h3 h4 h5 ?_
  rw [hL]
  refine ⟨⟨by omega, by omega⟩, fun q => (sm_four hn h1 hL (by omega)).mono ?_, fun q => Or.inr ⟨by omega, rfl, rfl⟩⟩
  rintro σ1 ⟨f1, l1, a1⟩
  refine (sm_four hn h2 (L := L + 4) (by rw [l1]; simp) (by omega)).mono ?_
  rintro σ2 ⟨f2, l2, a2⟩
  refine (sm_four hn h3 (L := L + 8) (by rw [l2]; simp; omega) (by omega)).mono ?_
  rintro σ3 ⟨f3, l3, a3⟩
  refine (sm_four hn h4 (L := L + 12) (by rw [l3]; simp; omega) (by omega)).mono ?_
  rintro σ4 ⟨f4, l4, a4⟩
  refine (sm_four hn h5 (L := L + 16) (by rw [l4]; simp; omega) (by omega)).mono ?_
  rintro σ5 ⟨f5, l5, a5⟩
  have l6 : gI σ5 73 20 = (L : Int) + 20 := by rw [l5]; simp; omega
  exact Or.inl ⟨by omega, l6, (((f1.tr f2).tr f3).tr f4).tr f5, l6, App.five a1 a2 a3 a4 a5⟩
theorem op_feed (hn : 104 ≤ n) (h : TapeR σ) {x1 x2 x3 x4 x5 : Int} (h1 : R32 x1) (h2 : R32 x2) (h3 : R32 x3) (h4 : R32 x4) (h5 : R32 x5) :
    ZkI X M_X9_feed (d + 3) n [.ref (zB X + 0), iV x1, iV x2, iV x3, iV x4, iV x5] σ (fun v σ1 => ZkI X M_X10_feed (d + 2) n [.ref (zB X + 73), iV x1, iV x2, iV x3, iV x4, iV x5] σ1 (fun w σ2 => v = w ∧ TapeR σ2 ∧ Fr tapeD σ σ2)) := by
  obtain ⟨hb, hm, hc⟩ := h
  obtain ⟨L, hL⟩ : ∃ L : Nat, gI σ 29 1 = (L : Int) := ⟨(gI σ 29 1).toNat, by omega⟩
  rw [hL] at hb hm hc
  refine (sx_feed (by omega) h1 h2 h3 h4 h5 hL (by omega)).mono ?_
  rintro v σ1 - (⟨hv, rfl, f1, l1, a1⟩ | ⟨hv, rfl, rfl⟩)
  · refine (sm_feed hn h1 h2 h3 h4 h5 (L := L) (by rw [f1.I (by omega)]; exact hm) (by omega)).mono ?_
    rintro w σ2 - (⟨hw, rfl, f2, l2, a2⟩ | ⟨hw, rfl, rfl⟩)
    · refine ⟨rfl, ⟨?_, ?_, fun i hi => ?_⟩, (f1.mono (fun a i q => by unfold tapeD; omega)).tr (f2.mono (fun a i q => by unfold tapeD; omega))⟩
      · rw [f2.I (by omega), l1]; omega
      · rw [f2.I (a := 29) (by omega), l1, l2]
      · rw [f2.I (a := 29) (by omega), l1] at hi
        rw [a2 i, f2.I (a := 30) (by omega), a1 i]
        by_cases q : L ≤ i ∧ i < L + 20
        · rw [if_pos q, if_pos q]
        · rw [if_neg q, if_neg q, f1.I (by omega)]; exact hc i (by omega)
    · omega
  · refine (sm_feed hn h1 h2 h3 h4 h5 (L := L) hm (by omega)).mono ?_
    rintro w σ2 - (⟨hw, rfl, f2, l2, a2⟩ | ⟨hw, rfl, rfl⟩)
    · omega
    · exact ⟨rfl, ⟨by rw [hL]; exact hb, by rw [hL]; exact hm, by rw [hL]; exact hc⟩, Fr.rf⟩
theorem op_end (hn : 104 ≤ n) (h : TapeR σ) {x : Int} (hx : R32 x) : ZkI X M_X9_end (d + 1) n [.ref (zB X + 0), iV x] σ (fun v σ1 => ZkI X M_X10_end (d + 1) n [.ref (zB X + 73), iV x] σ1 (fun w σ2 => v = w ∧ TapeR σ2 ∧ Fr tapeD σ σ2)) := by
  have hh := h
  obtain ⟨hb, hm, hc⟩ := h
  have z : (-1 : Int) = -1 ∧ TapeR σ ∧ Fr tapeD σ σ := ⟨rfl, hh, Fr.rf⟩
  refine w_X9_end (by omega) hx ⟨fun q => w_X10_end hn hx ⟨fun _ => z, fun _ => by omega⟩, fun q => ⟨fun q2 => w_X10_end hn hx ⟨fun _ => by omega, fun _ => ⟨fun _ => ⟨rfl, ⟨?_, ?_, fun i hi => ?_⟩, (Fr.rf.sI (by unfold tapeD; omega)).sI (by unfold tapeD; omega)⟩, fun q3 => ?_⟩⟩, fun q2 => w_X10_end hn hx ⟨fun _ => by omega, fun _ => ⟨fun q3 => by omega, fun _ => z⟩⟩⟩⟩
  · simp [gI_if]; omega
  · simp [gI_if]
  · simp [gI_if] at hi ⊢; exact hc i (by omega)
  · rw [gI_c (by omega), hm] at q3; omega
theorem op_ko (hn : 104 ≤ n) (h : gI σ 73 12 = gI σ 0 13) {x : Int} (hx : R32 x) : ZkI X M_X9_ko (d + 1) n [.ref (zB X + 0), iV x] σ (fun v σ1 => ZkI X M_X10_ko (d + 1) n [.ref (zB X + 73), iV x] σ1 (fun w σ2 => v = w ∧ ((σ = σ2) ∨ ((0 ≤ x ∧ x ≤ 2) ∧ σ2 = sI (sI σ 0 13 x) 73 12 x)))) := by
  refine w_X9_ko (by omega) hx ⟨fun q => w_X10_ko hn hx ⟨fun _ => ⟨rfl, Or.inl rfl⟩, fun _ => by omega⟩, fun q => ⟨fun q2 y hy => w_X10_ko hn hx ⟨fun _ => by omega, fun _ => ⟨fun _ y2 hy2 => ⟨?_, Or.inr ⟨by omega, rfl⟩⟩, fun _ => by omega⟩⟩, fun q2 => w_X10_ko hn hx ⟨fun _ => by omega, fun _ => ⟨fun _ => by omega, fun _ => ⟨rfl, Or.inl rfl⟩⟩⟩⟩⟩
  rw [hy, hy2, gI_c (by omega), h]
theorem op_place (hn : 104 ≤ n) (h : gI σ 73 23 = gI σ 49 9) : ZkI X M_X9_place (d + 1) n [.ref (zB X + 0)] σ (fun v σ1 => ZkI X M_X10_place (d + 1) n [.ref (zB X + 73)] σ1 (fun w σ2 => v = w ∧ σ = σ2)) :=
  w_X9_place (by omega) (w_X10_place hn ⟨h.symm, rfl⟩)
/-- what ladder() left to steps() -/
def StepR (σ : ZSto) : Prop := (gI σ 61 9 = -1 ∧ gI σ 61 10 = -1 ∧ gI σ 73 41 = -1) ∨ (0 ≤ gI σ 61 9 ∧ gI σ 73 41 = gI σ 61 9 ∧ gI σ 73 42 = gI σ 61 10)
theorem op_steps (hn : 104 ≤ n) (h : StepR σ) {x : Int} (hx : R32 x) : ZkI X M_X9_steps (d + 1) n [.ref (zB X + 0), iV x] σ (fun v σ1 => ZkI X M_X10_steps (d + 1) n [.ref (zB X + 73), iV x] σ1 (fun w σ2 => v = w ∧ σ = σ2)) := by
  refine w_X9_steps (by omega) hx ⟨fun q => w_X10_steps hn hx ⟨fun z => ⟨fun _ => by omega, fun _ => ⟨?_, rfl⟩⟩, fun z => ⟨?_, rfl⟩⟩, fun q => w_X10_steps hn hx ⟨fun z => ⟨fun _ => ⟨fun _ => by omega, fun _ => ⟨?_, rfl⟩⟩, fun _ => by omega⟩, fun z => ⟨?_, rfl⟩⟩, fun q => w_X10_steps hn hx ⟨fun z => ⟨fun _ => ⟨fun _ => ⟨rfl, rfl⟩, fun _ => by omega⟩, fun _ => by omega⟩, fun z => ⟨rfl, rfl⟩⟩⟩ <;> (unfold StepR at h; omega)
def OutR (σ : ZSto) : Prop := (0 ≤ gI σ 31 1 ∧ gI σ 31 1 ≤ 4096) ∧ gI σ 73 31 = gI σ 31 1 ∧ ∀ i : Nat, (i : Int) < gI σ 31 1 → gI σ 90 i = gI σ 32 i
theorem op_octet (hn : 104 ≤ n) (h : OutR σ) {x : Int} (hx : R32 x) : ZkI X M_X9_octet (d + 2) n [.ref (zB X + 0), iV x] σ (fun v σ1 => ZkI X M_X10_octet (d + 1) n [.ref (zB X + 73), iV x] σ1 (fun w σ2 => v = w ∧ σ = σ2)) := by
  have hz : zYn 31 = 4096 := rfl
  obtain ⟨hb, hm, hc⟩ := h
  refine w_X9_octet (by omega) hx (w_X1_byteAt (by omega) (Or.inr rfl) hx ⟨fun q => w_X10_octet hn hx ⟨fun _ => ⟨rfl, rfl⟩, fun _ => by omega⟩, fun q => ⟨fun q2 => w_X10_octet hn hx ⟨fun _ => by omega, fun _ => ⟨fun _ => ⟨rfl, rfl⟩, fun _ => by omega⟩⟩, fun q2 => ⟨fun q3 => ⟨by omega, w_X10_octet hn hx ⟨fun _ => by omega, fun _ => ⟨fun _ => by omega, fun _ => ⟨by omega, ?_, rfl⟩⟩⟩⟩, fun q3 => by omega⟩⟩⟩)
  rw [hc x.toNat (by omega)]
end ZT
