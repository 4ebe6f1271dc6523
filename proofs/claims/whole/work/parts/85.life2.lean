def VB (m : Nat) (bd : Nat → Int) (c : Int) (s i : Nat) : Prop := (∃ p, Rch m (Sr bd c) s p ∧ bd p = 0) ∧ ∀ p, Rch m (Sr bd c) s p → bd p = 0 → TB m bd c p i
def RB (m : Nat) (bd : Nat → Int) (c : Int) (s i : Nat) : Prop := ∃ p, Rch m (Sr bd c) s p ∧ TB m bd c p i
/-- what is told of the region with head s, under its number j -/
def RgO (σ : ZSto) (m : Nat) (bd : Nat → Int) (c : Int) (s j : Nat) : Prop := gI σ 56 j = (s : Int) ∧ gI σ 57 j = (cnt (Rch m (Sr bd c) s) (m * m) : Nat) ∧ gI σ 58 j = (cnt (fun q => Rch m (Sr bd c) s q ∧ bd q = 0) (m * m) : Nat) ∧ ∀ i, i < 64 → (lB (gL σ 59 j) i = true ↔ VB m bd c s i) ∧ (lB (gL σ 60 j) i = true ↔ RB m bd c s i)
def mrW (j a i : Nat) : Prop := a = 55 ∨ ((56 ≤ a ∧ a ≤ 60) ∧ i = j)
section ZL
variable {X : ZX} {d n : Nat} {σ : ZSto}
theorem sp_measureRegion (hn : 73 ≤ n) {m s j : Nat} {bd : Nat → Int} {c : Int} {σ0 : ZSto} (hB : BOk σ 33 m bd) (hG : Gth σ0 σ 33 m bd (Sr bd c) s) (hC : ChO σ m bd c) (hd : HdS m (Sr bd c) s) (hj : j < 64) :
    ZkV X M_X4_measureRegion (d + 3) n [.ref (zB X + 53), iV (j : Int)] σ (fun σ' => Fr (mrW j) σ σ' ∧ RgO σ' m bd c s j ∧ ∀ q, (Rch m (Sr bd c) s q → gI σ' 55 q = (j : Int)) ∧ (¬ Rch m (Sr bd c) s q → gI σ' 55 q = gI σ 55 q)) := by
  have hN := sq_le hB.1.2.1
  have hs := hd.1
  have tj : ((j : Int)).toNat = j := by omega
  obtain ⟨f, r1, r2, r3⟩ := hG.row hs
  have h9 : gI σ 33 9 = (cnt (Rch m (Sr bd c) s) (m * m) : Nat) := hG.2.2.2.2.1
  have hkl := cnt_le (Rch m (Sr bd c) s) (m * m)
  refine w_X4_measureRegion hn ⟨by omega, by omega⟩ ((sp_leastGathered hn (Or.inl rfl) hB.1 hG hs).mono ?_)
  rintro v _ - ⟨rfl, x, rfl, hx1, hx2⟩
  have hxs : x = s := by
    have a := hx2 s Rch.rf
    have b := hd.2.2 x hx1
    omega
  subst hxs
  rw [tj, h9]
  refine ⟨by omega, ?_⟩
  obtain ⟨σ1, e1⟩ : ∃ σ1, σ1 = sL (sI (sI (sI σ 56 j (x : Int)) 57 j ((cnt (Rch m (Sr bd c) x) (m * m) : Nat) : Int)) 58 j 0) 60 j (0 : Int64) := ⟨_, rfl⟩
  rw [← e1]
  have F1 : Fr (mrW j) σ σ1 := by
    rw [e1]
    refine (((Fr.rf.sI ?_).sI ?_).sI ?_).sL ?_ <;> (unfold mrW; omega)
  have v1 : gI σ1 56 j = (x : Int) ∧ gI σ1 57 j = ((cnt (Rch m (Sr bd c) x) (m * m) : Nat) : Int) ∧ gI σ1 58 j = 0 ∧ gL σ1 60 j = 0 := by
    rw [e1]
    refine ⟨?_, ?_, ?_, ?_⟩
    · simp [gI_if, gI_sL]
    · simp [gI_if, gI_sL]
    · simp [gI_if, gI_sL]
    · simp [gL_if]
  have o55 : ∀ q, gI σ1 55 q = gI σ 55 q := fun q => by rw [e1]; simp [gI_if, gI_sL]
  have key : ∀ (w i : Nat) (τ : ZSto) (l : Int64), cnt (Rch m (Sr bd c) x) (m * m) - i ≤ w → i ≤ cnt (Rch m (Sr bd c) x) (m * m) → Fr (fun a z => a = 55 ∨ ((a = 58 ∨ a = 60) ∧ z = j)) σ1 τ → (∀ q, (∃ i', i' < i ∧ f i' = q) → gI τ 55 q = (j : Int)) → (∀ q, (¬ ∃ i', i' < i ∧ f i' = q) → gI τ 55 q = gI σ 55 q) → gI τ 58 j = (cnt (fun q => (∃ i', i' < i ∧ f i' = q) ∧ bd q = 0) (m * m) : Nat) → (∀ b, b < 64 → (lB (gL τ 60 j) b = true ↔ ∃ q, (∃ i', i' < i ∧ f i' = q) ∧ TB m bd c q b)) → (∀ b, b < 64 → (lB l b = true ↔ ∀ q, (∃ i', i' < i ∧ f i' = q) → bd q = 0 → TB m bd c q b)) → L_X4_measureRegion_47 X (d + 2) n (zpV (fun σ' => Fr (mrW j) σ σ' ∧ RgO σ' m bd c x j ∧ ∀ q, (Rch m (Sr bd c) x q → gI σ' 55 q = (j : Int)) ∧ (¬ Rch m (Sr bd c) x q → gI σ' 55 q = gI σ 55 q))) (j : Int) l (i : Int) τ := by
    have done : ∀ (τ : ZSto) (l : Int64), Fr (fun a z => a = 55 ∨ ((a = 58 ∨ a = 60) ∧ z = j)) σ1 τ → (∀ q, (∃ i', i' < cnt (Rch m (Sr bd c) x) (m * m) ∧ f i' = q) → gI τ 55 q = (j : Int)) → (∀ q, (¬ ∃ i', i' < cnt (Rch m (Sr bd c) x) (m * m) ∧ f i' = q) → gI τ 55 q = gI σ 55 q) → gI τ 58 j = (cnt (fun q => (∃ i', i' < cnt (Rch m (Sr bd c) x) (m * m) ∧ f i' = q) ∧ bd q = 0) (m * m) : Nat) → (∀ b, b < 64 → (lB (gL τ 60 j) b = true ↔ ∃ q, (∃ i', i' < cnt (Rch m (Sr bd c) x) (m * m) ∧ f i' = q) ∧ TB m bd c q b)) → (∀ b, b < 64 → (lB l b = true ↔ ∀ q, (∃ i', i' < cnt (Rch m (Sr bd c) x) (m * m) ∧ f i' = q) → bd q = 0 → TB m bd c q b)) → L_X4_measureRegion_47 X (d + 2) n (zpV (fun σ' => Fr (mrW j) σ σ' ∧ RgO σ' m bd c x j ∧ ∀ q, (Rch m (Sr bd c) x q → gI σ' 55 q = (j : Int)) ∧ (¬ Rch m (Sr bd c) x q → gI σ' 55 q = gI σ 55 q))) (j : Int) l ((cnt (Rch m (Sr bd c) x) (m * m) : Nat) : Int) τ := by
      intro τ l hf a1 a2 a3 a4 a5
      have e58 : gI τ 58 j = (cnt (fun q => Rch m (Sr bd c) x q ∧ bd q = 0) (m * m) : Nat) := by
        rw [a3]; congr 1; exact cnt_congr (fun q _ => by rw [r2 q])
      have fin : ∀ l', (∀ b, b < 64 → (lB l' b = true ↔ VB m bd c x b)) → (Fr (mrW j) σ (sL τ 59 j l') ∧ RgO (sL τ 59 j l') m bd c x j ∧ ∀ q, (Rch m (Sr bd c) x q → gI (sL τ 59 j l') 55 q = (j : Int)) ∧ (¬ Rch m (Sr bd c) x q → gI (sL τ 59 j l') 55 q = gI σ 55 q)) := by
        intro l' hl'
        refine ⟨(F1.tr (hf.mono (fun a z q => by unfold mrW; omega))).sL (by unfold mrW; omega), ⟨?_, ?_, ?_, fun b hb => ⟨?_, ?_⟩⟩, fun q => ⟨fun y => ?_, fun y => ?_⟩⟩
        · rw [gI_sL, hf.I (by omega)]; exact v1.1
        · rw [gI_sL, hf.I (by omega)]; exact v1.2.1
        · rw [gI_sL]; exact e58
        · rw [gL_same]; exact hl' b hb
        · rw [gL_c (by omega), a4 b hb]
          constructor
          · rintro ⟨q, h1, h2⟩; exact ⟨q, (r2 q).mpr h1, h2⟩
          · rintro ⟨q, h1, h2⟩; exact ⟨q, (r2 q).mp h1, h2⟩
        · rw [gI_sL]; exact a1 q ((r2 q).mp y)
        · rw [gI_sL]; exact a2 q (fun z => y ((r2 q).mpr z))
      have two : (gI τ 58 j ≤ 0 → (Fr (mrW j) σ (sL τ 59 j (0 : Int64)) ∧ RgO (sL τ 59 j (0 : Int64)) m bd c x j ∧ ∀ q, (Rch m (Sr bd c) x q → gI (sL τ 59 j (0 : Int64)) 55 q = (j : Int)) ∧ (¬ Rch m (Sr bd c) x q → gI (sL τ 59 j (0 : Int64)) 55 q = gI σ 55 q))) ∧ (¬ gI τ 58 j ≤ 0 → (Fr (mrW j) σ (sL τ 59 j l) ∧ RgO (sL τ 59 j l) m bd c x j ∧ ∀ q, (Rch m (Sr bd c) x q → gI (sL τ 59 j l) 55 q = (j : Int)) ∧ (¬ Rch m (Sr bd c) x q → gI (sL τ 59 j l) 55 q = gI σ 55 q))) := by
        refine ⟨fun z => fin _ (fun b hb => ?_), fun z => fin _ (fun b hb => ?_)⟩
        · rw [lB_0]
          refine ⟨fun y => by simp at y, fun y => ?_⟩
          obtain ⟨⟨p, h1, h2⟩, _⟩ := y
          have := cnt_pos (P := fun q => Rch m (Sr bd c) x q ∧ bd q = 0) (h1.lt hs) ⟨h1, h2⟩
          omega
        · rw [a5 b hb]
          have ex : ∃ p, Rch m (Sr bd c) x p ∧ bd p = 0 := Classical.byContradiction (fun w => by
            have : cnt (fun q => Rch m (Sr bd c) x q ∧ bd q = 0) (m * m) = 0 := cnt_0 (fun q _ y => w ⟨q, y⟩)
            omega)
          exact ⟨fun y => ⟨ex, fun p h1 h2 => y p ((r2 p).mp h1) h2⟩, fun y p h1 h2 => y.2 p ((r2 p).mpr h1) h2⟩
      refine b_X4_measureRegion_47 hn ?_
      rw [hf.I (a := 33) (by omega), F1.I (a := 33) (by unfold mrW; omega), h9, tj]
      exact ⟨fun _ => ⟨by omega, two⟩, fun q => by omega⟩
    intro w
    induction w with
    | zero =>
      intro i τ l hw hi hf a1 a2 a3 a4 a5
      have : i = cnt (Rch m (Sr bd c) x) (m * m) := by omega
      subst this
      exact done τ l hf a1 a2 a3 a4 a5
    | succ w ih =>
      intro i τ l hw hi hf a1 a2 a3 a4 a5
      by_cases e : i = cnt (Rch m (Sr bd c) x) (m * m)
      · subst e; exact done τ l hf a1 a2 a3 a4 a5
      have hik : i < cnt (Rch m (Sr bd c) x) (m * m) := by omega
      obtain ⟨e1, e2, e3⟩ := r1 i hik
      have new := r3 i hik
      have ti : ((i : Int)).toNat = i := by omega
      have tf : ((f i : Nat) : Int).toNat = f i := by omega
      have ri : R32 ((i : Int) + 1) := ⟨by omega, by omega⟩
      have hB' : BOk τ 33 m bd := (hB.kept F1 (fun a z q => by unfold brdW at q; unfold mrW; omega)).kept hf (fun a z q => by unfold brdW at q; omega)
      have hC' : ChO τ m bd c := fun q hq => by rw [hf.I (by omega), F1.I (by unfold mrW; omega)]; exact hC q hq
      have grow : ∀ q, (∃ i', i' < i + 1 ∧ f i' = q) ↔ ((∃ i', i' < i ∧ f i' = q) ∨ q = f i) := by
        intro q
        constructor
        · rintro ⟨i', h1, h2⟩
          by_cases z : i' = i
          · subst z; exact Or.inr h2.symm
          · exact Or.inl ⟨i', by omega, h2⟩
        · rintro (⟨i', h1, h2⟩ | h2)
          · exact ⟨i', by omega, h2⟩
          · exact ⟨i, by omega, h2.symm⟩
      refine b_X4_measureRegion_47 hn ?_
      rw [hf.I (a := 33) (by omega), F1.I (a := 33) (by unfold mrW; omega), h9, ti, tj]
      refine ⟨fun q => by omega, fun _ => ⟨fun q => by omega, fun _ => ⟨by omega, fun y hy => ?_⟩⟩⟩
      rw [hf.I (by omega), F1.I (by unfold mrW; omega), e1] at hy
      subst hy
      refine (sp_chainsBeside hn hB'.1 hC' e2).mono ?_
      rintro v _ ⟨rfl, hv⟩
      rw [tf]
      refine ⟨by omega, by omega, ?_⟩
      obtain ⟨τ1, eτ⟩ : ∃ τ1, τ1 = sL (sI τ 55 (f i) (j : Int)) 60 j (gL τ 60 j ||| v) := ⟨_, rfl⟩
      rw [← eτ]
      have f1 : Fr (fun a z => a = 55 ∨ ((a = 58 ∨ a = 60) ∧ z = j)) τ τ1 := by rw [eτ]; exact (Fr.rf.sI (Or.inl rfl)).sL (Or.inr ⟨Or.inr rfl, rfl⟩)
      have t55 : ∀ q, gI τ1 55 q = if q = f i then (j : Int) else gI τ 55 q := fun q => by rw [eτ, gI_sL]; simp [gI_if]
      have t58 : gI τ1 58 j = gI τ 58 j := by rw [eτ, gI_sL, gI_c (by omega)]
      have t60 : gL τ1 60 j = (gL τ 60 j ||| v) := by rw [eτ, gL_same]
      have hB1 : BOk τ1 33 m bd := hB'.kept f1 (fun a z q => by unfold brdW at q; omega)
      have b1 : ∀ q, (∃ i', i' < i + 1 ∧ f i' = q) → gI τ1 55 q = (j : Int) := by
        intro q hq
        rw [t55]
        by_cases z : q = f i
        · rw [if_pos z]
        · rw [if_neg z]; exact a1 q (((grow q).mp hq).resolve_right z)
      have b2 : ∀ q, (¬ ∃ i', i' < i + 1 ∧ f i' = q) → gI τ1 55 q = gI σ 55 q := by
        intro q hq
        rw [t55, if_neg (fun z => hq ((grow q).mpr (Or.inr z)))]
        exact a2 q (fun z => hq ((grow q).mpr (Or.inl z)))
      have b4 : ∀ b, b < 64 → (lB (gL τ1 60 j) b = true ↔ ∃ q, (∃ i', i' < i + 1 ∧ f i' = q) ∧ TB m bd c q b) := by
        intro b hb
        rw [t60, lB_or, Bool.or_eq_true, a4 b hb, hv b hb]
        constructor
        · rintro (⟨q, h1, h2⟩ | h2)
          · exact ⟨q, (grow q).mpr (Or.inl h1), h2⟩
          · exact ⟨f i, (grow (f i)).mpr (Or.inr rfl), h2⟩
        · rintro ⟨q, h1, h2⟩
          rcases (grow q).mp h1 with h | h
          · exact Or.inl ⟨q, h, h2⟩
          · rw [h] at h2; exact Or.inr h2
      refine (sp_contentAt hn (Or.inl rfl) hB1.1 hB1.2.2.1 e2).mono ?_
      rintro v2 _ - ⟨rfl, rfl⟩
      refine ⟨fun q => ⟨ri, ?_⟩, fun q => ?_⟩
      · have := ih (i + 1) τ1 l (by omega) (by omega) (hf.tr f1) b1 b2 ?_ b4 (fun b hb => ?_)
        · simpa using this
        · rw [t58, a3]; congr 1
          refine cnt_congr (fun r _ => ?_)
          rw [grow]
          constructor
          · rintro ⟨h1, h2⟩; exact ⟨Or.inl h1, h2⟩
          · rintro ⟨h1 | h1, h2⟩
            · exact ⟨h1, h2⟩
            · rw [h1] at h2; exact absurd h2 q
        · rw [a5 b hb]
          constructor
          · intro h r hr hr0
            rcases (grow r).mp hr with h1 | h1
            · exact h r h1 hr0
            · rw [h1] at hr0; exact absurd hr0 q
          · intro h r hr hr0; exact h r ((grow r).mpr (Or.inl hr)) hr0
      · have hcl := cnt_le (fun q => (∃ i', i' < i ∧ f i' = q) ∧ bd q = 0) (m * m)
        rw [t58, a3]
        refine ⟨⟨by omega, by omega⟩, ri, ?_⟩
        obtain ⟨τ2, eτ2⟩ : ∃ τ2, τ2 = sI τ1 58 j (((cnt (fun q => (∃ i', i' < i ∧ f i' = q) ∧ bd q = 0) (m * m) : Nat) : Int) + 1) := ⟨_, rfl⟩
        rw [← eτ2]
        have := ih (i + 1) τ2 (l &&& v) (by omega) (by omega) (by rw [eτ2]; exact (hf.tr f1).sI (Or.inr ⟨Or.inl rfl, rfl⟩)) (fun r hr => by rw [eτ2, gI_c (by omega)]; exact b1 r hr) (fun r hr => by rw [eτ2, gI_c (by omega)]; exact b2 r hr) ?_ (fun b hb => by rw [eτ2, gL_sI]; exact b4 b hb) (fun b hb => ?_)
        · simpa using this
        · rw [eτ2, gI_same, cnt_add (P := fun q => (∃ i', i' < i ∧ f i' = q) ∧ bd q = 0) (Q := fun q => (∃ i', i' < i + 1 ∧ f i' = q) ∧ bd q = 0) e2 (fun z => new z.1) ⟨(grow (f i)).mpr (Or.inr rfl), q⟩ (fun r _ hr => ?_)]
          · simp
          · rw [grow]
            constructor
            · rintro ⟨h1 | h1, h2⟩
              · exact ⟨h1, h2⟩
              · exact absurd h1 hr
            · rintro ⟨h1, h2⟩; exact ⟨Or.inl h1, h2⟩
        · rw [lB_and, Bool.and_eq_true, a5 b hb, hv b hb]
          constructor
          · rintro ⟨h1, h2⟩ r hr hr0
            rcases (grow r).mp hr with h | h
            · exact h1 r h hr0
            · rw [h]; exact h2
          · intro h
            exact ⟨fun r hr hr0 => h r ((grow r).mpr (Or.inl hr)) hr0, h (f i) ((grow (f i)).mpr (Or.inr rfl)) q⟩
  have := key _ 0 σ1 (-1) (Nat.le_refl _) (by omega) Fr.rf (fun q y => by obtain ⟨i', h, _⟩ := y; omega) (fun q _ => o55 q) (by rw [v1.2.2.1, cnt_0 (fun q _ y => by obtain ⟨⟨i', h, _⟩, _⟩ := y; omega)]; rfl) (fun b hb => by rw [v1.2.2.2, lB_0]; exact ⟨fun y => by simp at y, fun ⟨q, ⟨i', h, _⟩, _⟩ => by omega⟩) (fun b hb => by rw [lB_m1 hb]; exact ⟨fun _ q y => by obtain ⟨i', h, _⟩ := y; omega, fun _ => rfl⟩)
  simpa using this
/-- what survey leaves -/
def LfO (σ : ZSto) (m : Nat) (bd : Nat → Int) (c : Int) : Prop := gI σ 53 8 = (cnt (HdS m (Sc bd c)) (m * m) : Nat) ∧ gI σ 53 9 = (cnt (HdS m (Sr bd c)) (m * m) : Nat) ∧ ChO σ m bd c ∧ (∀ h, HdS m (Sr bd c) h → RgO σ m bd c h (cnt (HdS m (Sr bd c)) h)) ∧ ∀ q, q < m * m → ∀ h, HdS m (Sr bd c) h → Rch m (Sr bd c) h q → gI σ 55 q = (cnt (HdS m (Sr bd c)) h : Nat)
def lfW (a i : Nat) : Prop := gatW 33 a i ∨ (53 ≤ a ∧ a ≤ 60)
theorem mask_o {c x : Int} (hc : c = 1 ∨ c = 2) (hx : x = 0 ∨ x = 1 ∨ x = 2) : andI (shrI (andI 7 (xorI (shlI 1 c) (-1))) x) 1 = 0 ↔ ¬ x ≠ c := by
  rcases hc with rfl | rfl <;> rcases hx with rfl | rfl | rfl <;> decide
theorem sp_lsurvey (hn : 73 ≤ n) {m : Nat} {bd : Nat → Int} {c : Int} (hB : BOk σ 33 m bd) (hc : c = 1 ∨ c = 2) (hg : gI σ 33 10 < 1999990000) :
    ZkV X M_X4_survey (d + 4) n [.ref (zB X + 53), iV c] σ (fun σ' => Fr lfW σ σ' ∧ BOk σ' 33 m bd ∧ gI σ' 33 10 ≤ gI σ 33 10 + 162 ∧ LfO σ' m bd c) := by
  have hN := sq_le hB.1.2.1
  refine w_X4_survey hn ⟨by omega, by omega⟩ ((sp_numberChains hn hB hc (by omega)).mono ?_)
  rintro σ1 ⟨f1, b1, g1, k1, c1⟩ y6 hy6 y9 hy9
  have hg0 := b1.2.2.2.1
  refine (sp_fillI hn (a := 55) (z := 81) (by omega) rfl ⟨by omega, by omega⟩).mono ?_
  rintro σ2 ⟨f2, z2⟩
  have f12 : Fr (fun a i => (a = 53 ∧ i = 9) ∨ a = 55) σ1 σ2 := (Fr.rf.sI (Or.inl ⟨rfl, rfl⟩)).tr (f2.mono (fun a i q => Or.inr q))
  have F2 : Fr lfW σ σ2 := (f1.mono (fun a i q => by unfold ncW at q; unfold lfW; rcases q with q | q; exact Or.inl q; exact Or.inr (by omega))).tr (f12.mono (fun a i q => by unfold lfW; omega))
  have e10 : gI σ2 33 10 = y9 := by rw [f12.I (by omega)]; exact hy9.symm
  have b2 : BOk σ2 33 m bd := b1.kept f12 (fun a i q => by unfold brdW at q; omega)
  have key := upto (N := m * m) (Q := fun p τ => L_X4_survey_38 X (d + 3) n (zpV (fun σ' => Fr lfW σ σ' ∧ BOk σ' 33 m bd ∧ gI σ' 33 10 ≤ gI σ 33 10 + 162 ∧ LfO σ' m bd c)) c y6 y9 (p : Int) τ) (I := fun p τ => Fr lfW σ τ ∧ BOk τ 33 m bd ∧ y9 ≤ gI τ 33 10 ∧ gI τ 33 10 ≤ y9 + p ∧ VisS τ 33 m (Sr bd c) y9 p ∧ gI τ 53 8 = (cnt (HdS m (Sc bd c)) (m * m) : Nat) ∧ gI τ 53 9 = (cnt (HdS m (Sr bd c)) p : Nat) ∧ ChO τ m bd c ∧ (∀ h, h < p → HdS m (Sr bd c) h → RgO τ m bd c h (cnt (HdS m (Sr bd c)) h)) ∧ ∀ q, q < m * m → (∃ r, r < p ∧ Sr bd c r ∧ Rch m (Sr bd c) r q) → ∀ h, HdS m (Sr bd c) h → Rch m (Sr bd c) h q → gI τ 55 q = (cnt (HdS m (Sr bd c)) h : Nat)) ?_ ?_ 0 σ2 (by omega) ?_
  · simpa using key
  · rintro τ ⟨hf, hb, a1, a2, hv, h8, h9, hC, hR, hq⟩
    refine b_X4_survey_38 hn ?_
    rw [hb.1.2.2.2.1]
    refine ⟨fun _ => ⟨hf, hb, by omega, h8, h9, hC, fun h hh => hR h hh.1 hh, fun q hqm h h1 h2 => hq q hqm ⟨h, h1.1, h1.2.1, h2⟩ h h1 h2⟩, fun z => by omega⟩
  · rintro p τ hp ⟨hf, hb, a1, a2, hv, h8, h9, hC, hR, hq⟩ ih
    have hcl := heads_lt (S := Sr bd c) hB.1.2.1
    have hcl2 : cnt (HdS m (Sr bd c)) p ≤ cnt (HdS m (Sr bd c)) (m * m) := cnt_up (by omega)
    have rp : R32 ((p : Int) + 1) := ⟨by omega, by omega⟩
    have skip : (¬ Sr bd c p ∨ y9 < gI τ (33 + 4) p) → L_X4_survey_38 X (d + 3) n (zpV (fun σ' => Fr lfW σ σ' ∧ BOk σ' 33 m bd ∧ gI σ' 33 10 ≤ gI σ 33 10 + 162 ∧ LfO σ' m bd c)) c y6 y9 ((p : Int) + 1) τ := by
      intro hz
      have hv' := hv.skip hp hz
      have nh : ¬ HdS m (Sr bd c) p := by
        intro z
        rcases hz with w | w
        · exact w z.2.1
        · exact (HdS.iff hp z.2.1).mpr z ((hv p hp).mp w)
      have := ih τ ⟨hf, hb, a1, by omega, hv', h8, by rw [cnt_n nh]; exact h9, hC, fun h hh hd => ?_, fun q hqm => ?_⟩
      · simpa using this
      · by_cases e : h = p
        · rw [e] at hd; exact absurd hd nh
        · exact hR h (by omega) hd
      · rw [← hv' q hqm, hv q hqm]; exact hq q hqm
    refine b_X4_survey_38 hn ?_
    rw [hb.1.2.2.2.1, h9]
    refine ⟨fun z => by omega, fun _ => ⟨fun z => by omega, fun _ => (sp_contentAt hn (Or.inl rfl) hb.1 hb.2.2.1 hp).mono ?_⟩⟩
    rintro v _ - ⟨rfl, rfl⟩
    refine ⟨fun z => ⟨rp, skip (Or.inl (fun w => w z))⟩, fun z => (sp_gatheredSince hn (Or.inl rfl) hb.1 hp ⟨by omega, by omega⟩).mono ?_⟩
    rintro v _ - ⟨rfl, ⟨rfl, w⟩ | ⟨rfl, w⟩⟩
    · exact ⟨fun _ => ⟨rp, skip (Or.inr w)⟩, fun q => by omega⟩
    · have hs : Sr bd c p := z
      refine ⟨fun q => absurd rfl q, fun _ => ?_⟩
      have hG := sp_gather (X := X) (d := d + 2) (mask := y6) (S := Sr bd c) hn (Or.inl rfl) hb.1 hb.2.1 hb.2.2.1 hb.2.2.2 hp hs (by omega) (by rw [hy6]; exact r32_and _ _) (fun r hr => by rw [hy6]; exact mask_o hc (hb.2.1 r hr))
      refine hG.mono ?_
      intro τ1 hG1
      have nv : ¬ ∃ r, r < p ∧ Sr bd c r ∧ Rch m (Sr bd c) r p := fun y => w ((hv p hp).mpr y)
      have hd : HdS m (Sr bd c) p := (HdS.iff hp hs).mp nv
      have o : ∀ a i, ¬ gatW 33 a i → gI τ1 a i = gI τ a i := fun a i y => hG1.1.I y
      have oL : ∀ a i, ¬ gatW 33 a i → gL τ1 a i = gL τ a i := fun a i y => hG1.1.L y
      have hC1 : ChO τ1 m bd c := fun q hqm => by rw [o _ _ (by unfold gatW; omega)]; exact hC q hqm
      rw [o 53 9 (by unfold gatW; omega), h9]
      refine (sp_measureRegion hn (hG1.ok hb) hG1 hC1 hd (by omega)).mono ?_
      rintro τ2 ⟨f2', r2, q2⟩
      have e9 : gI τ2 53 9 = (cnt (HdS m (Sr bd c)) p : Nat) := by rw [f2'.I (by unfold mrW; omega), o _ _ (by unfold gatW; omega)]; exact h9
      rw [e9]
      refine ⟨⟨by omega, by omega⟩, rp, ?_⟩
      obtain ⟨τ3, e3⟩ : ∃ τ3, τ3 = sI τ2 53 9 (((cnt (HdS m (Sr bd c)) p : Nat) : Int) + 1) := ⟨_, rfl⟩
      rw [← e3]
      have f3 : Fr (fun a i => a = 53 ∧ i = 9) τ2 τ3 := by rw [e3]; exact Fr.rf.sI ⟨rfl, rfl⟩
      have F : Fr lfW σ τ3 := ((hf.tr (hG1.1.mono (W' := lfW) (fun a i y => Or.inl y))).tr (f2'.mono (fun a i y => by unfold mrW at y; unfold lfW; omega))).tr (f3.mono (fun a i y => by unfold lfW; omega))
      have F13 : Fr (fun a i => mrW (cnt (HdS m (Sr bd c)) p) a i ∨ (a = 53 ∧ i = 9)) τ1 τ3 := (f2'.mono (fun a i y => Or.inl y)).tr (f3.mono (fun a i y => Or.inr y))
      have hv1 := hv.go (S := Sr bd c) hs (by omega) hG1
      have e103 : gI τ3 33 10 = gI τ 33 10 + 1 := by rw [F13.I (by unfold mrW; omega)]; exact hG1.2.1
      have hvf : VisS τ3 33 m (Sr bd c) y9 (p + 1) := fun r hr => by rw [F13.I (by unfold mrW; omega)]; exact hv1 r hr
      have := ih τ3 ⟨F, (hG1.ok hb).kept F13 (fun a i y => by unfold brdW at y; unfold mrW; omega), by omega, by omega, hvf, by rw [F13.I (by unfold mrW; omega), o _ _ (by unfold gatW; omega)]; exact h8, by rw [e3, gI_same, cnt_s hd]; simp, fun q hqm => by rw [F13.I (by unfold mrW; omega)]; exact hC1 q hqm, fun h hh hhd => ?_, fun q hqm => ?_⟩
      · simpa using this
      · have k3 : ∀ a i, a ≠ 53 → gI τ3 a i = gI τ2 a i ∧ gL τ3 a i = gL τ2 a i := fun a i y => ⟨f3.I (by omega), f3.L (by omega)⟩
        by_cases e : h = p
        · subst e
          obtain ⟨t1, t2, t3, t4⟩ := r2
          refine ⟨by rw [(k3 _ _ (by omega)).1]; exact t1, by rw [(k3 _ _ (by omega)).1]; exact t2, by rw [(k3 _ _ (by omega)).1]; exact t3, fun i hi => ?_⟩
          rw [(k3 _ _ (by omega)).2, (k3 _ _ (by omega)).2]
          exact t4 i hi
        · have hne : cnt (HdS m (Sr bd c)) h ≠ cnt (HdS m (Sr bd c)) p := fun y => e (ix_inj hhd hd y)
          have k4 : ∀ a, 56 ≤ a → a ≤ 60 → gI τ3 a (cnt (HdS m (Sr bd c)) h) = gI τ a (cnt (HdS m (Sr bd c)) h) ∧ gL τ3 a (cnt (HdS m (Sr bd c)) h) = gL τ a (cnt (HdS m (Sr bd c)) h) := fun a y1 y2 => ⟨by rw [F13.I (by unfold mrW; omega), o _ _ (by unfold gatW; omega)], by rw [F13.L (by unfold mrW; omega), oL _ _ (by unfold gatW; omega)]⟩
          obtain ⟨t1, t2, t3, t4⟩ := hR h (by omega) hhd
          refine ⟨by rw [(k4 _ (by omega) (by omega)).1]; exact t1, by rw [(k4 _ (by omega) (by omega)).1]; exact t2, by rw [(k4 _ (by omega) (by omega)).1]; exact t3, fun i hi => ?_⟩
          rw [(k4 _ (by omega) (by omega)).2, (k4 _ (by omega) (by omega)).2]
          exact t4 i hi
      · rintro ⟨r, y1, y2, y3⟩ h h1 h2
        rw [f3.I (by omega)]
        by_cases e : Rch m (Sr bd c) p q
        · rw [(q2 q).1 e, HdS.uniq h1 hd h2 e]
        · have : r ≠ p := fun y => e (by rw [← y]; exact y3)
          rw [(q2 q).2 e, o _ _ (by unfold gatW; omega)]
          exact hq q hqm ⟨r, by omega, y2, y3⟩ h h1 h2
  · refine ⟨F2, b2, by omega, by omega, by have := VisS.start (S := Sr bd c) (m := m) b2.2.2.2; rw [e10] at this; exact this, by rw [f12.I (by omega)]; exact k1, by rw [f2.I (by omega), gI_same]; rfl, fun q hqm => by rw [f12.I (by omega)]; exact c1 q hqm, fun h hh => by omega, fun q hqm y => by obtain ⟨r, h, _⟩ := y; omega⟩
end ZL
