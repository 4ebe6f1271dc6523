/-! ===== the reference's reader ===== -/
def TpM (σ : ZSto) (B : Nat → Int) (L : Nat) : Prop := gI σ 73 20 = (L : Int) ∧ L ≤ 1500 ∧ ∀ i, i < L → andI (gI σ 88 i) 255 = B i ∧ 0 ≤ B i ∧ B i ≤ 255 ∧ (B i < 128 → gI σ 88 i = B i) ∧ (128 ≤ B i → gI σ 88 i = B i - 256)
theorem TpM.kept {W : Nat → Nat → Prop} {σ σ' : ZSto} {B : Nat → Int} {L : Nat} (h : TpM σ B L) (hf : Fr W σ σ') (hw : ∀ i, ¬ W 88 i) (hw2 : ¬ W 73 20) : TpM σ' B L := by
  obtain ⟨h1, h2, h3⟩ := h
  exact ⟨by rw [hf.I hw2]; exact h1, h2, fun i hi => by rw [hf.I (hw i)]; exact h3 i hi⟩
section ZQ
variable {X : ZX} {d n : Nat} {B : Nat → Int} {L : Nat}
theorem sm_see (hn : 104 ≤ n) {σ : ZSto} (hT : TpM σ B L) {i : Nat} (h24 : gI σ 73 24 = (i : Int)) : ZkI X M_X10_see (d + 1) n [.ref (zB X + 73)] σ (fun v σ' => σ = σ' ∧ ((i < L ∧ v = B i) ∨ (L ≤ i ∧ v = 256))) := by
  obtain ⟨h1, h2, h3⟩ := hT
  refine w_X10_see hn ?_
  rw [h1, h24, show ((i : Int)).toNat = i by omega]
  exact ⟨fun q => ⟨rfl, Or.inr ⟨by omega, rfl⟩⟩, fun q => ⟨by omega, rfl, Or.inl ⟨by omega, (h3 i (by omega)).1⟩⟩⟩
theorem sm_blanks (hn : 104 ≤ n) : ∀ (w i : Nat) (σ : ZSto), TpM σ B L → L - i ≤ w → i ≤ 3000 → gI σ 73 24 = (i : Int) → ZkV X M_X10_blanks (d + 2) n [.ref (zB X + 73)] σ (fun σ' => Fr (fun a j => a = 73 ∧ j = 24) σ σ' ∧ gI σ' 73 24 = (skF B L w i : Nat)) := by
  intro w i σ hT hw hi h6
  refine w_X10_blanks hn ?_
  have key : ∀ (w i : Nat) (τ : ZSto), L - i ≤ w → i ≤ 3000 → Fr (fun a j => a = 73 ∧ j = 24) σ τ → gI τ 73 24 = (i : Int) → ∀ v : Nat, v = skF B L w i → L_X10_blanks_0 X (d + 1) n (zpV (fun σ' => Fr (fun a j => a = 73 ∧ j = 24) σ σ' ∧ gI σ' 73 24 = (v : Int))) τ := by
    intro w
    induction w with
    | zero =>
      intro i τ hw hi hf h6 v hv
      have hT' := hT.kept hf (fun i => by omega) (by omega)
      have fin : Fr (fun a j => a = 73 ∧ j = 24) σ τ ∧ gI τ 73 24 = (v : Int) := ⟨hf, by rw [h6, hv]; rfl⟩
      refine b_X10_blanks_0 hn ((sm_see hn hT' h6).mono ?_)
      rintro b _ - ⟨rfl, hb⟩
      refine ⟨fun z => by omega, fun _ => (sm_see hn hT' h6).mono ?_⟩
      rintro b2 _ - ⟨rfl, hb2⟩
      refine ⟨fun z => by omega, fun _ => (sm_see hn hT' h6).mono ?_⟩
      rintro b3 _ - ⟨rfl, hb3⟩
      exact ⟨fun _ => fin, fun z => by omega⟩
    | succ w ih =>
      intro i τ hw hi hf h6 v hv
      have hT' := hT.kept hf (fun i => by omega) (by omega)
      have hL := hT'.2.1
      unfold skF at hv
      have yes : i < L → (B i = 32 ∨ B i = 10 ∨ B i = 13) → R32 (gI τ 73 24 + 1) ∧ L_X10_blanks_0 X (d + 1) n (zpV (fun σ' => Fr (fun a j => a = 73 ∧ j = 24) σ σ' ∧ gI σ' 73 24 = (v : Int))) (sI τ 73 24 (gI τ 73 24 + 1)) := by
        intro h1 hy
        rw [if_pos ⟨h1, hy⟩] at hv
        rw [h6]
        exact ⟨⟨by omega, by omega⟩, ih (i + 1) _ (by omega) (by omega) (hf.sI ⟨rfl, rfl⟩) (by rw [gI_same]; omega) v hv⟩
      refine b_X10_blanks_0 hn ((sm_see hn hT' h6).mono ?_)
      rintro b _ - ⟨rfl, hb⟩
      refine ⟨fun z => yes (by omega) (Or.inl (by omega)), fun z1 => (sm_see hn hT' h6).mono ?_⟩
      rintro b2 _ - ⟨rfl, hb2⟩
      refine ⟨fun z => yes (by omega) (Or.inr (Or.inl (by omega))), fun z2 => (sm_see hn hT' h6).mono ?_⟩
      rintro b3 _ - ⟨rfl, hb3⟩
      refine ⟨fun z3 => ⟨hf, ?_⟩, fun z => yes (by omega) (Or.inr (Or.inr (by omega)))⟩
      rw [if_neg (by omega)] at hv
      rw [h6, hv]
  exact key w i σ hw hi Fr.rf h6 _ rfl
theorem pm_5 (hn : 104 ≤ n) {P : Int → ZSto → Prop} {x1 x2 : Int} {σ0 : ZSto} (hT0 : TpM σ0 B L) {v : Nat} (hP : ∀ τ, Fr (fun a j => a = 73 ∧ j = 24) σ0 τ → gI τ 73 24 = (v : Int) → L_X10_property_36 X (d + 1) n (zpZ P) x1 x2 τ) : ∀ (w i : Nat) (τ : ZSto), L - i ≤ w → i ≤ 3000 → Fr (fun a j => a = 73 ∧ j = 24) σ0 τ → gI τ 73 24 = (i : Int) → v = grF B L w i → L_X10_property_5 X (d + 1) n (zpZ P) x1 x2 τ := by
  intro w
  induction w with
  | zero =>
    intro i τ hw hi hf h6 hv
    have hT' := hT0.kept hf (fun i => by omega) (by omega)
    have fin := hP τ hf (by rw [h6, hv]; rfl)
    refine b_X10_property_5 hn ((sm_see hn hT' h6).mono ?_)
    rintro b _ - ⟨rfl, hb⟩
    refine ⟨fun _ => fin, fun z => (sm_see hn hT' h6).mono ?_⟩
    rintro b2 _ - ⟨rfl, hb2⟩
    exact ⟨fun _ => fin, fun z => by omega⟩
  | succ w ih =>
    intro i τ hw hi hf h6 hv
    have hT' := hT0.kept hf (fun i => by omega) (by omega)
    have hL := hT'.2.1
    unfold grF at hv
    have no : ¬ (i < L ∧ (65 ≤ B i ∧ B i ≤ 90)) → L_X10_property_36 X (d + 1) n (zpZ P) x1 x2 τ := by
      intro h
      rw [if_neg h] at hv
      exact hP τ hf (by rw [h6, hv])
    refine b_X10_property_5 hn ((sm_see hn hT' h6).mono ?_)
    rintro b _ - ⟨rfl, hb⟩
    refine ⟨fun z => no (by omega), fun z => (sm_see hn hT' h6).mono ?_⟩
    rintro b2 _ - ⟨rfl, hb2⟩
    refine ⟨fun z => no (by omega), fun z => ?_⟩
    rw [if_pos ⟨by omega, by omega, by omega⟩] at hv
    rw [h6]
    exact ⟨⟨by omega, by omega⟩, ih (i + 1) _ (by omega) (by omega) (hf.sI ⟨rfl, rfl⟩) (by rw [gI_same]; omega) hv⟩
theorem sm_isName (hn : 104 ≤ n) {σ : ZSto} (hT : TpM σ B L) {i j : Nat} {a b : Int} (hi : i < L) (hij : i ≤ j) (hj : j ≤ L) (h24 : gI σ 73 24 = (j : Int)) (ha : 0 < a ∧ a < 128) (hb : 0 ≤ b ∧ b < 128) : ZkZ X M_X10_isName (d + 1) n [.ref (zB X + 73), iV (i : Int), iV a, iV b] σ (fun v σ' => σ = σ' ∧ ((v = 1 ∧ ((b = 0 ∧ j = i + 1 ∧ B i = a) ∨ (b ≠ 0 ∧ j = i + 2 ∧ B i = a ∧ B (i + 1) = b))) ∨ (v = 0 ∧ ¬ ((b = 0 ∧ j = i + 1 ∧ B i = a) ∨ (b ≠ 0 ∧ j = i + 2 ∧ B i = a ∧ B (i + 1) = b))))) := by
  obtain ⟨h1, h2, h3⟩ := hT
  obtain ⟨-, u1, u2, u3, u4⟩ := h3 i hi
  have ti : ((i : Int)).toNat = i := by omega
  have ti1 : ((i : Int) + 1).toNat = i + 1 := by omega
  refine w_X10_isName hn ⟨by omega, by omega⟩ ⟨by omega, by omega⟩ ⟨by omega, by omega⟩ ?_
  rw [h24]
  refine ⟨fun z => ⟨⟨by omega, by omega⟩, b_X10_isName_15 hn ⟨fun y => ⟨rfl, Or.inr ⟨rfl, by omega⟩⟩, fun y => ⟨by omega, ?_⟩⟩⟩, fun z => ⟨⟨by omega, by omega⟩, b_X10_isName_15 hn ⟨fun y => ⟨rfl, Or.inr ⟨rfl, by omega⟩⟩, fun y => ⟨by omega, ?_⟩⟩⟩⟩
  · rw [ti, ti1]
    obtain ⟨-, w1, w2, w3, w4⟩ := h3 (i + 1) (by omega)
    exact ⟨fun y2 => ⟨rfl, Or.inr ⟨rfl, by omega⟩⟩, fun y2 => ⟨fun y3 => absurd y3 z, fun _ => ⟨by omega, fun y3 => ⟨rfl, Or.inr ⟨rfl, by omega⟩⟩, fun y3 => ⟨rfl, Or.inl ⟨rfl, by omega⟩⟩⟩⟩⟩
  · rw [ti]
    exact ⟨fun y2 => ⟨rfl, Or.inr ⟨rfl, by omega⟩⟩, fun y2 => ⟨fun _ => ⟨rfl, Or.inl ⟨rfl, by omega⟩⟩, fun y3 => absurd z y3⟩⟩
theorem sm_nameFrom (hn : 104 ≤ n) {σ : ZSto} (hT : TpM σ B L) {i j : Nat} (hi : i < L) (hij : i ≤ j) (hj : j ≤ L) (h24 : gI σ 73 24 = (j : Int)) : ZkI X M_X10_nameFrom (d + 2) n [.ref (zB X + 73), iV (i : Int)] σ (fun v σ' => σ = σ' ∧ v = nmF B i j) := by
  have hL := hT.2.1
  have e1 : ∀ a b : Int, ¬ b = 0 → ((b = 0 ∧ j = i + 1 ∧ B i = a) ∨ (b ≠ 0 ∧ j = i + 2 ∧ B i = a ∧ B (i + 1) = b) ↔ (j = i + 2 ∧ B i = a ∧ B (i + 1) = b)) := fun a b hb => ⟨fun u => u.elim (fun v => absurd v.1 hb) (fun v => v.2), fun u => Or.inr ⟨hb, u⟩⟩
  have e0 : ∀ a : Int, (((0 : Int) = 0 ∧ j = i + 1 ∧ B i = a) ∨ ((0 : Int) ≠ 0 ∧ j = i + 2 ∧ B i = a ∧ B (i + 1) = 0) ↔ (j = i + 1 ∧ B i = a)) := fun a => ⟨fun u => u.elim (fun v => v.2) (fun v => absurd rfl v.1), fun u => Or.inl ⟨rfl, u⟩⟩
  have s2 : ∀ a b : Int, (0 < a ∧ a < 128) → (0 < b ∧ b < 128) → ZkZ X M_X10_isName (d + 1) n [.ref (zB X + 73), iV (i : Int), iV a, iV b] σ (fun v σ' => σ = σ' ∧ ((v = 1 ∧ (j = i + 2 ∧ B i = a ∧ B (i + 1) = b)) ∨ (v = 0 ∧ ¬ (j = i + 2 ∧ B i = a ∧ B (i + 1) = b)))) := fun a b ha hb => by
    have := sm_isName (X := X) (d := d) (a := a) (b := b) hn hT hi hij hj h24 ha (by omega)
    rw [e1 a b (by omega)] at this
    exact this
  have s1 : ∀ a : Int, (0 < a ∧ a < 128) → ZkZ X M_X10_isName (d + 1) n [.ref (zB X + 73), iV (i : Int), iV a, iV 0] σ (fun v σ' => σ = σ' ∧ ((v = 1 ∧ (j = i + 1 ∧ B i = a)) ∨ (v = 0 ∧ ¬ (j = i + 1 ∧ B i = a)))) := fun a ha => by
    have := sm_isName (X := X) (d := d) (a := a) (b := 0) hn hT hi hij hj h24 ha (by omega)
    rw [e0 a] at this
    exact this
  refine w_X10_nameFrom hn ⟨by omega, by omega⟩ ((s2 83 90 (by omega) (by omega)).mono ?_)
  unfold nmF
  rintro v1 _ - ⟨rfl, h1⟩
  refine ⟨fun z1 => (s2 75 77 (by omega) (by omega)).mono ?_, fun z1 => ⟨rfl, ?_⟩⟩
  · rintro v2 _ - ⟨rfl, h2⟩
    refine ⟨fun z2 => (s1 66 (by omega)).mono ?_, fun z2 => ⟨rfl, ?_⟩⟩
    · rintro v3 _ - ⟨rfl, h3⟩
      refine ⟨fun z3 => (s1 87 (by omega)).mono ?_, fun z3 => ⟨rfl, ?_⟩⟩
      · rintro v4 _ - ⟨rfl, h4⟩
        refine ⟨fun z4 => (s2 65 66 (by omega) (by omega)).mono ?_, fun z4 => ⟨rfl, ?_⟩⟩
        · rintro v5 _ - ⟨rfl, h5⟩
          refine ⟨fun z5 => (s2 65 87 (by omega) (by omega)).mono ?_, fun z5 => ⟨rfl, ?_⟩⟩
          · rintro v6 _ - ⟨rfl, h6⟩
            refine ⟨fun z6 => (s2 65 69 (by omega) (by omega)).mono ?_, fun z6 => ⟨rfl, ?_⟩⟩
            · rintro v7 _ - ⟨rfl, h7⟩
              have n1 : ¬ (j = i + 2 ∧ B i = 83 ∧ B (i + 1) = 90) := by
                rcases h1 with u | u
                · omega
                · exact u.2
              have n2 : ¬ (j = i + 2 ∧ B i = 75 ∧ B (i + 1) = 77) := by
                rcases h2 with u | u
                · omega
                · exact u.2
              have n3 : ¬ (j = i + 1 ∧ B i = 66) := by
                rcases h3 with u | u
                · omega
                · exact u.2
              have n4 : ¬ (j = i + 1 ∧ B i = 87) := by
                rcases h4 with u | u
                · omega
                · exact u.2
              have n5 : ¬ (j = i + 2 ∧ B i = 65 ∧ B (i + 1) = 66) := by
                rcases h5 with u | u
                · omega
                · exact u.2
              have n6 : ¬ (j = i + 2 ∧ B i = 65 ∧ B (i + 1) = 87) := by
                rcases h6 with u | u
                · omega
                · exact u.2
              clear h1 h2 h3 h4 h5 h6 s1 s2 e0 e1
              refine ⟨fun z7 => ⟨rfl, ?_⟩, fun z7 => ⟨rfl, ?_⟩⟩
              · have n7 : ¬ (j = i + 2 ∧ B i = 65 ∧ B (i + 1) = 69) := by
                  rcases h7 with u | u
                  · omega
                  · exact u.2
                clear h7
                by_cases j1 : j = i + 1
                · rw [if_pos j1, if_neg (fun u => n3 ⟨j1, u⟩), if_neg (fun u => n4 ⟨j1, u⟩)]
                · rw [if_neg j1]
                  by_cases j2 : j = i + 2
                  · rw [if_pos j2]
                    by_cases h65 : B i = 65
                    · rw [if_pos h65, if_neg (fun u => n5 ⟨j2, h65, u⟩), if_neg (fun u => n6 ⟨j2, h65, u⟩), if_neg (fun u => n7 ⟨j2, h65, u⟩)]
                    · rw [if_neg h65, if_neg (fun u => n1 ⟨j2, u.1, u.2⟩), if_neg (fun u => n2 ⟨j2, u.1, u.2⟩)]
                  · rw [if_neg j2]
              · have y7 : j = i + 2 ∧ B i = 65 ∧ B (i + 1) = 69 := by
                  rcases h7 with u | u
                  · exact u.2
                  · exact absurd u.1 z7
                rw [if_neg (by omega), if_pos y7.1, if_pos y7.2.1, if_neg (by omega), if_neg (by omega), if_pos y7.2.2]
            · have y6 : j = i + 2 ∧ B i = 65 ∧ B (i + 1) = 87 := by
                rcases h6 with u | u
                · exact u.2
                · exact absurd u.1 z6
              rw [if_neg (by omega), if_pos y6.1, if_pos y6.2.1, if_neg (by omega), if_pos y6.2.2]
          · have y5 : j = i + 2 ∧ B i = 65 ∧ B (i + 1) = 66 := by
              rcases h5 with u | u
              · exact u.2
              · exact absurd u.1 z5
            rw [if_neg (by omega), if_pos y5.1, if_pos y5.2.1, if_pos y5.2.2]
        · have y4 : j = i + 1 ∧ B i = 87 := by
            rcases h4 with u | u
            · exact u.2
            · exact absurd u.1 z4
          rw [if_pos y4.1, if_neg (by omega), if_pos y4.2]
      · have y3 : j = i + 1 ∧ B i = 66 := by
          rcases h3 with u | u
          · exact u.2
          · exact absurd u.1 z3
        rw [if_pos y3.1, if_pos y3.2]
    · have y2 : j = i + 2 ∧ B i = 75 ∧ B (i + 1) = 77 := by
        rcases h2 with u | u
        · exact u.2
        · exact absurd u.1 z2
      rw [if_neg (by omega), if_pos y2.1, if_neg (by omega), if_neg (by omega), if_pos y2.2]
  · have y1 : j = i + 2 ∧ B i = 83 ∧ B (i + 1) = 90 := by
      rcases h1 with u | u
      · exact u.2
      · exact absurd u.1 z1
    rw [if_neg (by omega), if_pos y1.1, if_neg (by omega), if_pos y1.2]
theorem sm_digits (hn : 104 ≤ n) {σ : ZSto} (hT : TpM σ B L) {i j : Nat} (hij : i ≤ j + 1) (hj : j ≤ L) (h24 : gI σ 73 24 = (j : Int)) : ZkI X M_X10_digits (d + 1) n [.ref (zB X + 73), iV (i : Int)] σ (fun v σ' => σ = σ' ∧ v = nuF B i j) := by
  have hL := hT.2.1
  refine w_X10_digits hn ⟨by omega, by omega⟩ ?_
  rw [h24]
  refine ⟨⟨by omega, by omega⟩, fun z => ⟨rfl, ?_⟩, fun z => ⟨fun z2 => ?_, fun z2 => ⟨rfl, ?_⟩⟩⟩
  · unfold nuF; rw [if_pos (by omega)]
  · have e : nuF B i j = dgF B (j - i) i 0 := by unfold nuF; rw [if_neg (by omega)]
    rw [e]
    have key : ∀ (w x : Nat) (a : Int), j = x + w → w ≤ 3 → 0 ≤ a → (w = 3 → a < 100) → (w = 2 → a < 1000) → (w = 1 → a < 10000) → ∀ r : Int, r = dgF B w x a → L_X10_digits_26 X d n (zpI (fun v σ' => σ = σ' ∧ v = r)) a (x : Int) σ := by
      intro w
      induction w with
      | zero =>
        intro x a hx _ _ _ _ _ r hr
        refine b_X10_digits_26 hn ?_
        rw [h24]
        exact ⟨fun _ => ⟨rfl, by rw [hr]; rfl⟩, fun q => by omega⟩
      | succ w ih =>
        intro x a hx hw ha h3 h2 h1 r hr
        obtain ⟨-, u1, u2, u3, u4⟩ := hT.2.2 x (by omega)
        refine b_X10_digits_26 hn ?_
        rw [h24, show ((x : Int)).toNat = x by omega]
        unfold dgF at hr
        refine ⟨fun q => by omega, fun _ => ⟨by omega, fun y => ⟨rfl, ?_⟩, fun y => ⟨fun y2 y14 ey => ⟨⟨by omega, by omega⟩, ⟨by omega, by omega⟩, ?_⟩, fun y2 => ⟨rfl, ?_⟩⟩⟩⟩
        · rw [if_neg (by omega)] at hr; exact hr.symm
        · rw [if_pos (by omega)] at hr
          have ey' : y14 = 10 * a + (B x - 48) := by omega
          subst ey'
          have := ih (x + 1) (10 * a + (B x - 48)) (by omega) (by omega) (by omega) (by omega) (by omega) (by omega) r hr
          simpa using this
        · rw [if_neg (by omega)] at hr; exact hr.symm
    exact key (j - i) i 0 (by omega) (by omega) (by omega) (by omega) (by omega) (by omega) _ rfl
  · unfold nuF; rw [if_pos (by omega)]
theorem sm_pointFrom (hn : 104 ≤ n) {σ : ZSto} (hT : TpM σ B L) {i j m : Nat} (hij : i ≤ j) (hj : j ≤ L) (h24 : gI σ 73 24 = (j : Int)) (hm : gI σ 73 13 = (m : Int)) (h9 : m ≤ 9) : ZkI X M_X10_pointFrom (d + 1) n [.ref (zB X + 73), iV (i : Int)] σ (fun v σ' => σ = σ' ∧ v = ptF B m i j) := by
  have hL := hT.2.1
  refine w_X10_pointFrom hn ⟨by omega, by omega⟩ ?_
  rw [h24]
  refine ⟨⟨by omega, by omega⟩, fun z => ⟨by omega, fun y8 e8 => ⟨by omega, fun y13 e13 => ?_⟩⟩, fun z => ⟨rfl, ?_⟩⟩
  · rw [show ((i : Int)).toNat = i by omega] at e8
    rw [show ((i : Int) + 1).toNat = i + 1 by omega] at e13
    obtain ⟨-, u1, u2, u3, u4⟩ := hT.2.2 i (by omega)
    obtain ⟨-, w1, w2, w3, w4⟩ := hT.2.2 (i + 1) (by omega)
    have b8 : (y8 = B i - 97 ∧ B i < 128) ∨ (y8 < 0 ∧ -400 < y8 ∧ 128 ≤ B i) := by omega
    have b13 : (y13 = B (i + 1) - 97 ∧ B (i + 1) < 128) ∨ (y13 < 0 ∧ -400 < y13 ∧ 128 ≤ B (i + 1)) := by omega
    clear u3 u4 w3 w4 e8 e13
    unfold ptF
    rw [hm]
    refine ⟨⟨by omega, by omega⟩, fun y => ⟨rfl, ?_⟩, fun y => ⟨fun y2 => ⟨rfl, ?_⟩, fun y2 => ⟨⟨by omega, by omega⟩, fun y3 => ⟨rfl, ?_⟩, fun y3 => ⟨fun y4 => ⟨?_, rfl, ?_⟩, fun y4 => ⟨rfl, ?_⟩⟩⟩⟩⟩
    · rw [if_neg (by omega)]
    · rw [if_neg (by omega)]
    · rw [if_neg (by omega)]
    · have h1 : 0 ≤ (m : Int) * y13 := Int.mul_nonneg (by omega) (by omega)
      have h2 : (m : Int) * y13 ≤ 9 * 9 := Int.mul_le_mul (by omega) (by omega) (by omega) (by omega)
      exact ⟨by omega, by omega⟩
    · have q1 : y8 = B i - 97 := by omega
      have q2 : y13 = B (i + 1) - 97 := by omega
      rw [if_pos ⟨by omega, ⟨by omega, by omega⟩, by omega, by omega⟩, q1, q2, Int.mul_comm]
    · rw [if_neg (by omega)]
  · unfold ptF; rw [if_neg (by omega)]
end ZQ
