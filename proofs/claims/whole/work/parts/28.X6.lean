/-! StoneRoom$Tally.forgetDead -/
theorem dX6_forgetDead_0 : decode M_X6_forgetDead.2.1 0 = .ok (.iconst 0, 1) := by decide +kernel
theorem dX6_forgetDead_1 : decode M_X6_forgetDead.2.1 1 = .ok (.istore_n 1, 1) := by decide +kernel
theorem dX6_forgetDead_2 : decode M_X6_forgetDead.2.1 2 = .ok (.iload_n 1, 1) := by decide +kernel
theorem dX6_forgetDead_3 : decode M_X6_forgetDead.2.1 3 = .ok (.bipush 81, 2) := by decide +kernel
theorem dX6_forgetDead_5 : decode M_X6_forgetDead.2.1 5 = .ok (.if_icmp .ge 16, 3) := by decide +kernel
theorem dX6_forgetDead_8 : decode M_X6_forgetDead.2.1 8 = .ok (.aload_n 0, 1) := by decide +kernel
theorem dX6_forgetDead_9 : decode M_X6_forgetDead.2.1 9 = .ok (.getfield 9, 3) := by decide +kernel
theorem dX6_forgetDead_12 : decode M_X6_forgetDead.2.1 12 = .ok (.iload_n 1, 1) := by decide +kernel
theorem dX6_forgetDead_13 : decode M_X6_forgetDead.2.1 13 = .ok (.iconst 0, 1) := by decide +kernel
theorem dX6_forgetDead_14 : decode M_X6_forgetDead.2.1 14 = .ok (.bastore, 1) := by decide +kernel
theorem dX6_forgetDead_15 : decode M_X6_forgetDead.2.1 15 = .ok (.iinc 1 1, 3) := by decide +kernel
theorem dX6_forgetDead_18 : decode M_X6_forgetDead.2.1 18 = .ok (.goto (-16), 3) := by decide +kernel
theorem dX6_forgetDead_21 : decode M_X6_forgetDead.2.1 21 = .ok (.return_, 1) := by decide +kernel
def L_X6_forgetDead_2 (X : ZX) (d n : Nat) (P : Option Value → ZSto → Prop) (x1 : Int) (σ : ZSto) : Prop := R32 x1 → ZOk n σ → Zn X M_X6_forgetDead d n P 2 [some (.ref (zB X + 67)), some (iV x1)] [] σ
theorem w_X6_forgetDead {X : ZX} {d n : Nat} {P : ZSto → Prop}  {σ : ZSto} (hn : 73 ≤ n)  
    (h : L_X6_forgetDead_2 X d n (zpV P) 0 σ) :
    ZkV X M_X6_forgetDead (d + 1) n [.ref (zB X + 67)] σ P := by
  refine zk_of (ls := [some (.ref (zB X + 67)), none]) pl_RX6 (Nat.le_of_ble_eq_true rfl) rfl (fun k0 => ?_)
  unfold Zn
  refine r_iconst dX6_forgetDead_0 ?_
  refine r_istore_n dX6_forgetDead_1 rfl rfl ?_
  exact r_mask [true, true] rfl (h (r32c rfl) k0)
theorem b_X6_forgetDead_2 {X : ZX} {d n : Nat} {P : ZSto → Prop} {x1 : Int} {σ : ZSto} (hn : 73 ≤ n) 
    (h : (81 ≤ x1 → P σ) ∧ (¬ (81 ≤ x1) → (0 ≤ x1 ∧ x1 < 81) ∧ R32 (x1 + 1) ∧ L_X6_forgetDead_2 X d n (zpV P) (x1 + 1) (sI σ 68 x1.toNat 0))) :
    L_X6_forgetDead_2 X d n (zpV P) x1 σ := by
  intro hx1 k0
  unfold Zn
  refine r_iload_n dX6_forgetDead_2 rfl ?_
  refine r_bipush dX6_forgetDead_3 rfl ?_
  refine r_icmp_ge (t := 21) dX6_forgetDead_5 rfl hx1 (r32c rfl) (fun c1 => ?_) (fun c2 => ?_)
  · have h3 := h.1 c1
    exact r_return dX6_forgetDead_21 rfl ⟨k0, rfl, h3⟩
  · have h4 := h.2 c2
    refine r_aload_n dX6_forgetDead_8 rfl ?_
    refine r_getP (a := 68) dX6_forgetDead_9 kf_RX6_9 (zlt hn rfl) sh_67 rfl (k0.1 _ _ _ (zlt hn rfl) p_67_2) ?_
    refine r_iload_n dX6_forgetDead_12 rfl ?_
    refine r_iconst dX6_forgetDead_13 ?_
    obtain ⟨h5, h6⟩ := h4
    refine r_zastore dX6_forgetDead_14 (zlt hn rfl) sh_68 h5.1 h5.2 (Or.inl rfl) ?_
    have k7 := zok_z (i := x1.toNat) (x := 0) k0 sh_68 (Or.inl rfl)
    refine r_iinc dX6_forgetDead_15 rfl rfl rfl ?_
    refine r_goto (t := 2) dX6_forgetDead_18 rfl ?_
    obtain ⟨h8, h9⟩ := h6
    exact r_mask [true, true] rfl (h9 h8 k7)
/-! StoneRoom$Tally.isDead -/
theorem dX6_isDead_0 : decode M_X6_isDead.2.1 0 = .ok (.iload_n 1, 1) := by decide +kernel
theorem dX6_isDead_1 : decode M_X6_isDead.2.1 1 = .ok (.ifCond .lt 22, 3) := by decide +kernel
theorem dX6_isDead_4 : decode M_X6_isDead.2.1 4 = .ok (.iload_n 1, 1) := by decide +kernel
theorem dX6_isDead_5 : decode M_X6_isDead.2.1 5 = .ok (.bipush 81, 2) := by decide +kernel
theorem dX6_isDead_7 : decode M_X6_isDead.2.1 7 = .ok (.if_icmp .ge 16, 3) := by decide +kernel
theorem dX6_isDead_10 : decode M_X6_isDead.2.1 10 = .ok (.aload_n 0, 1) := by decide +kernel
theorem dX6_isDead_11 : decode M_X6_isDead.2.1 11 = .ok (.getfield 9, 3) := by decide +kernel
theorem dX6_isDead_14 : decode M_X6_isDead.2.1 14 = .ok (.iload_n 1, 1) := by decide +kernel
theorem dX6_isDead_15 : decode M_X6_isDead.2.1 15 = .ok (.baload, 1) := by decide +kernel
theorem dX6_isDead_16 : decode M_X6_isDead.2.1 16 = .ok (.ifCond .eq 7, 3) := by decide +kernel
theorem dX6_isDead_19 : decode M_X6_isDead.2.1 19 = .ok (.iconst 1, 1) := by decide +kernel
theorem dX6_isDead_20 : decode M_X6_isDead.2.1 20 = .ok (.goto 4, 3) := by decide +kernel
theorem dX6_isDead_23 : decode M_X6_isDead.2.1 23 = .ok (.iconst 0, 1) := by decide +kernel
theorem dX6_isDead_24 : decode M_X6_isDead.2.1 24 = .ok (.ireturn, 1) := by decide +kernel
theorem w_X6_isDead {X : ZX} {d n : Nat} {P : Int → ZSto → Prop} {x1 : Int} {σ : ZSto} (hn : 73 ≤ n)  (hx1 : R32 x1)
    (h : (x1 < 0 → P 0 σ) ∧ (¬ (x1 < 0) → (81 ≤ x1 → P 0 σ) ∧ (¬ (81 ≤ x1) → (0 ≤ x1 ∧ x1 < 81) ∧ (gI σ 68 x1.toNat = 0 → P 0 σ) ∧ (¬ (gI σ 68 x1.toNat = 0) → P 1 σ)))) :
    ZkZ X M_X6_isDead (d + 1) n [.ref (zB X + 67), iV x1] σ P := by
  refine zk_of (ls := [some (.ref (zB X + 67)), some (iV x1)]) pl_RX6 (Nat.le_of_ble_eq_true rfl) rfl (fun k0 => ?_)
  unfold Zn
  refine r_iload_n dX6_isDead_0 rfl ?_
  refine r_if_lt (t := 23) dX6_isDead_1 rfl hx1  (fun c1 => ?_) (fun c2 => ?_)
  · have h3 := h.1 c1
    refine r_iconst dX6_isDead_23 ?_
    exact r_zreturn dX6_isDead_24 rfl (Or.inl rfl) ⟨k0, _, rfl, (Or.inl rfl), h3⟩
  · have h4 := h.2 c2
    refine r_iload_n dX6_isDead_4 rfl ?_
    refine r_bipush dX6_isDead_5 rfl ?_
    refine r_icmp_ge (t := 23) dX6_isDead_7 rfl hx1 (r32c rfl) (fun c5 => ?_) (fun c6 => ?_)
    · have h7 := h4.1 c5
      refine r_iconst dX6_isDead_23 ?_
      exact r_zreturn dX6_isDead_24 rfl (Or.inl rfl) ⟨k0, _, rfl, (Or.inl rfl), h7⟩
    · have h8 := h4.2 c6
      refine r_aload_n dX6_isDead_10 rfl ?_
      refine r_getP (a := 68) dX6_isDead_11 kf_RX6_9 (zlt hn rfl) sh_67 rfl (k0.1 _ _ _ (zlt hn rfl) p_67_2) ?_
      refine r_iload_n dX6_isDead_14 rfl ?_
      obtain ⟨h9, h10⟩ := h8
      refine r_zaloadE dX6_isDead_15 (zlt hn rfl) sh_68 h9.1 h9.2 rfl ?_
      refine r_if_eq (t := 23) dX6_isDead_16 rfl (k0.2.1 _ _)  (fun c11 => ?_) (fun c12 => ?_)
      · have h13 := h10.1 c11
        refine r_iconst dX6_isDead_23 ?_
        exact r_zreturn dX6_isDead_24 rfl (Or.inl rfl) ⟨k0, _, rfl, (Or.inl rfl), h13⟩
      · have h14 := h10.2 c12
        refine r_iconst dX6_isDead_19 ?_
        refine r_goto (t := 24) dX6_isDead_20 rfl ?_
        exact r_zreturn dX6_isDead_24 rfl (Or.inr rfl) ⟨k0, _, rfl, (Or.inr rfl), h14⟩
/-! StoneRoom$Tally.markGathered -/
theorem dX6_markGathered_0 : decode M_X6_markGathered.2.1 0 = .ok (.iconst 0, 1) := by decide +kernel
theorem dX6_markGathered_1 : decode M_X6_markGathered.2.1 1 = .ok (.istore_n 2, 1) := by decide +kernel
theorem dX6_markGathered_2 : decode M_X6_markGathered.2.1 2 = .ok (.iload_n 2, 1) := by decide +kernel
theorem dX6_markGathered_3 : decode M_X6_markGathered.2.1 3 = .ok (.aload_n 0, 1) := by decide +kernel
theorem dX6_markGathered_4 : decode M_X6_markGathered.2.1 4 = .ok (.getfield 22, 3) := by decide +kernel
theorem dX6_markGathered_7 : decode M_X6_markGathered.2.1 7 = .ok (.getfield 29, 3) := by decide +kernel
theorem dX6_markGathered_10 : decode M_X6_markGathered.2.1 10 = .ok (.if_icmp .ge 30, 3) := by decide +kernel
theorem dX6_markGathered_13 : decode M_X6_markGathered.2.1 13 = .ok (.iload_n 2, 1) := by decide +kernel
theorem dX6_markGathered_14 : decode M_X6_markGathered.2.1 14 = .ok (.bipush 81, 2) := by decide +kernel
theorem dX6_markGathered_16 : decode M_X6_markGathered.2.1 16 = .ok (.if_icmp .ge 24, 3) := by decide +kernel
theorem dX6_markGathered_19 : decode M_X6_markGathered.2.1 19 = .ok (.aload_n 0, 1) := by decide +kernel
theorem dX6_markGathered_20 : decode M_X6_markGathered.2.1 20 = .ok (.getfield 9, 3) := by decide +kernel
theorem dX6_markGathered_23 : decode M_X6_markGathered.2.1 23 = .ok (.aload_n 0, 1) := by decide +kernel
theorem dX6_markGathered_24 : decode M_X6_markGathered.2.1 24 = .ok (.getfield 22, 3) := by decide +kernel
theorem dX6_markGathered_27 : decode M_X6_markGathered.2.1 27 = .ok (.getfield 35, 3) := by decide +kernel
theorem dX6_markGathered_30 : decode M_X6_markGathered.2.1 30 = .ok (.iload_n 2, 1) := by decide +kernel
theorem dX6_markGathered_31 : decode M_X6_markGathered.2.1 31 = .ok (.iaload, 1) := by decide +kernel
theorem dX6_markGathered_32 : decode M_X6_markGathered.2.1 32 = .ok (.iload_n 1, 1) := by decide +kernel
theorem dX6_markGathered_33 : decode M_X6_markGathered.2.1 33 = .ok (.bastore, 1) := by decide +kernel
theorem dX6_markGathered_34 : decode M_X6_markGathered.2.1 34 = .ok (.iinc 2 1, 3) := by decide +kernel
theorem dX6_markGathered_37 : decode M_X6_markGathered.2.1 37 = .ok (.goto (-35), 3) := by decide +kernel
theorem dX6_markGathered_40 : decode M_X6_markGathered.2.1 40 = .ok (.return_, 1) := by decide +kernel
def L_X6_markGathered_2 (X : ZX) (d n : Nat) (P : Option Value → ZSto → Prop) (x1 : Int) (x2 : Int) (σ : ZSto) : Prop := R32 x1 → R32 x2 → ZOk n σ → Zn X M_X6_markGathered d n P 2 [some (.ref (zB X + 67)), some (iV x1), some (iV x2)] [] σ
theorem w_X6_markGathered {X : ZX} {d n : Nat} {P : ZSto → Prop} {x1 : Int} {σ : ZSto} (hn : 73 ≤ n)  (hx1 : R32 x1)
    (h : L_X6_markGathered_2 X d n (zpV P) x1 0 σ) :
    ZkV X M_X6_markGathered (d + 1) n [.ref (zB X + 67), iV x1] σ P := by
  refine zk_of (ls := [some (.ref (zB X + 67)), some (iV x1), none]) pl_RX6 (Nat.le_of_ble_eq_true rfl) rfl (fun k0 => ?_)
  unfold Zn
  refine r_iconst dX6_markGathered_0 ?_
  refine r_istore_n dX6_markGathered_1 rfl rfl ?_
  exact r_mask [true, true, true] rfl (h hx1 (r32c rfl) k0)
theorem b_X6_markGathered_2 {X : ZX} {d n : Nat} {P : ZSto → Prop} {x1 : Int} {x2 : Int} {σ : ZSto} (hn : 73 ≤ n) 
    (h : (gI σ 33 9 ≤ x2 → P σ) ∧ (¬ (gI σ 33 9 ≤ x2) → (81 ≤ x2 → P σ) ∧ (¬ (81 ≤ x2) → (0 ≤ x2 ∧ x2 < 81) ∧ (0 ≤ gI σ 36 x2.toNat ∧ gI σ 36 x2.toNat < 81) ∧ (x1 = 0 ∨ x1 = 1) ∧ R32 (x2 + 1) ∧ L_X6_markGathered_2 X d n (zpV P) x1 (x2 + 1) (sI σ 68 ((gI σ 36 x2.toNat).toNat) x1)))) :
    L_X6_markGathered_2 X d n (zpV P) x1 x2 σ := by
  intro hx1 hx2 k0
  unfold Zn
  refine r_iload_n dX6_markGathered_2 rfl ?_
  refine r_aload_n dX6_markGathered_3 rfl ?_
  refine r_getP (a := 33) dX6_markGathered_4 kf_RX6_22 (zlt hn rfl) sh_67 rfl (k0.1 _ _ _ (zlt hn rfl) p_67_0) ?_
  refine r_getI dX6_markGathered_7 kf_RX6_29 (zlt hn rfl) sh_33 (Or.inl rfl) rfl ?_
  refine r_icmp_ge (t := 40) dX6_markGathered_10 rfl hx2 (k0.2.1 _ _) (fun c1 => ?_) (fun c2 => ?_)
  · have h3 := h.1 c1
    exact r_return dX6_markGathered_40 rfl ⟨k0, rfl, h3⟩
  · have h4 := h.2 c2
    refine r_iload_n dX6_markGathered_13 rfl ?_
    refine r_bipush dX6_markGathered_14 rfl ?_
    refine r_icmp_ge (t := 40) dX6_markGathered_16 rfl hx2 (r32c rfl) (fun c5 => ?_) (fun c6 => ?_)
    · have h7 := h4.1 c5
      exact r_return dX6_markGathered_40 rfl ⟨k0, rfl, h7⟩
    · have h8 := h4.2 c6
      refine r_aload_n dX6_markGathered_19 rfl ?_
      refine r_getP (a := 68) dX6_markGathered_20 kf_RX6_9 (zlt hn rfl) sh_67 rfl (k0.1 _ _ _ (zlt hn rfl) p_67_2) ?_
      refine r_aload_n dX6_markGathered_23 rfl ?_
      refine r_getP (a := 33) dX6_markGathered_24 kf_RX6_22 (zlt hn rfl) sh_67 rfl (k0.1 _ _ _ (zlt hn rfl) p_67_0) ?_
      refine r_getP (a := 36) dX6_markGathered_27 kf_RX6_35 (zlt hn rfl) sh_33 rfl (k0.1 _ _ _ (zlt hn rfl) (zB_p2 (Or.inl rfl))) ?_
      refine r_iload_n dX6_markGathered_30 rfl ?_
      obtain ⟨h9, h10⟩ := h8
      refine r_ialoadE dX6_markGathered_31 (zlt hn rfl) sh_36 h9.1 h9.2 rfl ?_
      refine r_iload_n dX6_markGathered_32 rfl ?_
      obtain ⟨h11, h12⟩ := h10
      obtain ⟨h14, h15⟩ := h12
      refine r_zastore dX6_markGathered_33 (zlt hn rfl) sh_68 h11.1 h11.2 h14 ?_
      have k13 := zok_z (i := (gI σ 36 x2.toNat).toNat) (x := x1) k0 sh_68 h14
      refine r_iinc dX6_markGathered_34 rfl rfl rfl ?_
      refine r_goto (t := 2) dX6_markGathered_37 rfl ?_
      obtain ⟨h16, h17⟩ := h15
      exact r_mask [true, true, true] rfl (h17 hx1 h16 k13)
/-! StoneRoom$Tally.survey -/
theorem dX6_survey_0 : decode M_X6_survey.2.1 0 = .ok (.aload_n 0, 1) := by decide +kernel
theorem dX6_survey_1 : decode M_X6_survey.2.1 1 = .ok (.getfield 15, 3) := by decide +kernel
theorem dX6_survey_4 : decode M_X6_survey.2.1 4 = .ok (.iconst 0, 1) := by decide +kernel
theorem dX6_survey_5 : decode M_X6_survey.2.1 5 = .ok (.invokestatic 38, 3) := by decide +kernel
theorem dX6_survey_8 : decode M_X6_survey.2.1 8 = .ok (.aload_n 0, 1) := by decide +kernel
theorem dX6_survey_9 : decode M_X6_survey.2.1 9 = .ok (.getfield 19, 3) := by decide +kernel
theorem dX6_survey_12 : decode M_X6_survey.2.1 12 = .ok (.iconst 0, 1) := by decide +kernel
theorem dX6_survey_13 : decode M_X6_survey.2.1 13 = .ok (.invokestatic 38, 3) := by decide +kernel
theorem dX6_survey_16 : decode M_X6_survey.2.1 16 = .ok (.aload_n 0, 1) := by decide +kernel
theorem dX6_survey_17 : decode M_X6_survey.2.1 17 = .ok (.getfield 26, 3) := by decide +kernel
theorem dX6_survey_20 : decode M_X6_survey.2.1 20 = .ok (.aload_n 0, 1) := by decide +kernel
theorem dX6_survey_21 : decode M_X6_survey.2.1 21 = .ok (.getfield 22, 3) := by decide +kernel
theorem dX6_survey_24 : decode M_X6_survey.2.1 24 = .ok (.invokevirtual 44, 3) := by decide +kernel
theorem dX6_survey_27 : decode M_X6_survey.2.1 27 = .ok (.iconst 0, 1) := by decide +kernel
theorem dX6_survey_28 : decode M_X6_survey.2.1 28 = .ok (.istore_n 1, 1) := by decide +kernel
theorem dX6_survey_29 : decode M_X6_survey.2.1 29 = .ok (.iload_n 1, 1) := by decide +kernel
theorem dX6_survey_30 : decode M_X6_survey.2.1 30 = .ok (.aload_n 0, 1) := by decide +kernel
theorem dX6_survey_31 : decode M_X6_survey.2.1 31 = .ok (.getfield 22, 3) := by decide +kernel
theorem dX6_survey_34 : decode M_X6_survey.2.1 34 = .ok (.getfield 48, 3) := by decide +kernel
theorem dX6_survey_37 : decode M_X6_survey.2.1 37 = .ok (.if_icmp .ge 55, 3) := by decide +kernel
theorem dX6_survey_40 : decode M_X6_survey.2.1 40 = .ok (.aload_n 0, 1) := by decide +kernel
theorem dX6_survey_41 : decode M_X6_survey.2.1 41 = .ok (.getfield 9, 3) := by decide +kernel
theorem dX6_survey_44 : decode M_X6_survey.2.1 44 = .ok (.iload_n 1, 1) := by decide +kernel
theorem dX6_survey_45 : decode M_X6_survey.2.1 45 = .ok (.baload, 1) := by decide +kernel
theorem dX6_survey_46 : decode M_X6_survey.2.1 46 = .ok (.ifCond .eq 40, 3) := by decide +kernel
theorem dX6_survey_49 : decode M_X6_survey.2.1 49 = .ok (.aload_n 0, 1) := by decide +kernel
theorem dX6_survey_50 : decode M_X6_survey.2.1 50 = .ok (.getfield 22, 3) := by decide +kernel
theorem dX6_survey_53 : decode M_X6_survey.2.1 53 = .ok (.iload_n 1, 1) := by decide +kernel
theorem dX6_survey_54 : decode M_X6_survey.2.1 54 = .ok (.invokevirtual 51, 3) := by decide +kernel
theorem dX6_survey_57 : decode M_X6_survey.2.1 57 = .ok (.ifCond .eq 29, 3) := by decide +kernel
theorem dX6_survey_60 : decode M_X6_survey.2.1 60 = .ok (.aload_n 0, 1) := by decide +kernel
theorem dX6_survey_61 : decode M_X6_survey.2.1 61 = .ok (.getfield 19, 3) := by decide +kernel
theorem dX6_survey_64 : decode M_X6_survey.2.1 64 = .ok (.aload_n 0, 1) := by decide +kernel
theorem dX6_survey_65 : decode M_X6_survey.2.1 65 = .ok (.getfield 22, 3) := by decide +kernel
theorem dX6_survey_68 : decode M_X6_survey.2.1 68 = .ok (.iload_n 1, 1) := by decide +kernel
theorem dX6_survey_69 : decode M_X6_survey.2.1 69 = .ok (.invokevirtual 55, 3) := by decide +kernel
theorem dX6_survey_72 : decode M_X6_survey.2.1 72 = .ok (.dup2, 1) := by decide +kernel
theorem dX6_survey_73 : decode M_X6_survey.2.1 73 = .ok (.iaload, 1) := by decide +kernel
theorem dX6_survey_74 : decode M_X6_survey.2.1 74 = .ok (.iconst 1, 1) := by decide +kernel
theorem dX6_survey_75 : decode M_X6_survey.2.1 75 = .ok (.iadd, 1) := by decide +kernel
theorem dX6_survey_76 : decode M_X6_survey.2.1 76 = .ok (.iastore, 1) := by decide +kernel
theorem dX6_survey_77 : decode M_X6_survey.2.1 77 = .ok (.aload_n 0, 1) := by decide +kernel
theorem dX6_survey_78 : decode M_X6_survey.2.1 78 = .ok (.getfield 26, 3) := by decide +kernel
theorem dX6_survey_81 : decode M_X6_survey.2.1 81 = .ok (.iload_n 1, 1) := by decide +kernel
theorem dX6_survey_82 : decode M_X6_survey.2.1 82 = .ok (.iconst 0, 1) := by decide +kernel
theorem dX6_survey_83 : decode M_X6_survey.2.1 83 = .ok (.invokevirtual 59, 3) := by decide +kernel
theorem dX6_survey_86 : decode M_X6_survey.2.1 86 = .ok (.iinc 1 1, 3) := by decide +kernel
theorem dX6_survey_89 : decode M_X6_survey.2.1 89 = .ok (.goto (-60), 3) := by decide +kernel
theorem dX6_survey_92 : decode M_X6_survey.2.1 92 = .ok (.aload_n 0, 1) := by decide +kernel
theorem dX6_survey_93 : decode M_X6_survey.2.1 93 = .ok (.getfield 26, 3) := by decide +kernel
theorem dX6_survey_96 : decode M_X6_survey.2.1 96 = .ok (.getfield 63, 3) := by decide +kernel
theorem dX6_survey_99 : decode M_X6_survey.2.1 99 = .ok (.istore_n 1, 1) := by decide +kernel
theorem dX6_survey_100 : decode M_X6_survey.2.1 100 = .ok (.iconst 0, 1) := by decide +kernel
theorem dX6_survey_101 : decode M_X6_survey.2.1 101 = .ok (.istore_n 2, 1) := by decide +kernel
theorem dX6_survey_102 : decode M_X6_survey.2.1 102 = .ok (.iload_n 2, 1) := by decide +kernel
theorem dX6_survey_103 : decode M_X6_survey.2.1 103 = .ok (.aload_n 0, 1) := by decide +kernel
theorem dX6_survey_104 : decode M_X6_survey.2.1 104 = .ok (.getfield 26, 3) := by decide +kernel
theorem dX6_survey_107 : decode M_X6_survey.2.1 107 = .ok (.getfield 48, 3) := by decide +kernel
theorem dX6_survey_110 : decode M_X6_survey.2.1 110 = .ok (.if_icmp .ge 45, 3) := by decide +kernel
theorem dX6_survey_113 : decode M_X6_survey.2.1 113 = .ok (.aload_n 0, 1) := by decide +kernel
theorem dX6_survey_114 : decode M_X6_survey.2.1 114 = .ok (.getfield 26, 3) := by decide +kernel
theorem dX6_survey_117 : decode M_X6_survey.2.1 117 = .ok (.iload_n 2, 1) := by decide +kernel
theorem dX6_survey_118 : decode M_X6_survey.2.1 118 = .ok (.invokevirtual 55, 3) := by decide +kernel
theorem dX6_survey_121 : decode M_X6_survey.2.1 121 = .ok (.ifCond .ne 28, 3) := by decide +kernel
theorem dX6_survey_124 : decode M_X6_survey.2.1 124 = .ok (.aload_n 0, 1) := by decide +kernel
theorem dX6_survey_125 : decode M_X6_survey.2.1 125 = .ok (.getfield 26, 3) := by decide +kernel
theorem dX6_survey_128 : decode M_X6_survey.2.1 128 = .ok (.iload_n 2, 1) := by decide +kernel
theorem dX6_survey_129 : decode M_X6_survey.2.1 129 = .ok (.iload_n 1, 1) := by decide +kernel
theorem dX6_survey_130 : decode M_X6_survey.2.1 130 = .ok (.invokevirtual 66, 3) := by decide +kernel
theorem dX6_survey_133 : decode M_X6_survey.2.1 133 = .ok (.ifCond .ne 16, 3) := by decide +kernel
theorem dX6_survey_136 : decode M_X6_survey.2.1 136 = .ok (.aload_n 0, 1) := by decide +kernel
theorem dX6_survey_137 : decode M_X6_survey.2.1 137 = .ok (.getfield 26, 3) := by decide +kernel
theorem dX6_survey_140 : decode M_X6_survey.2.1 140 = .ok (.iload_n 2, 1) := by decide +kernel
theorem dX6_survey_141 : decode M_X6_survey.2.1 141 = .ok (.iconst 1, 1) := by decide +kernel
theorem dX6_survey_142 : decode M_X6_survey.2.1 142 = .ok (.invokevirtual 70, 3) := by decide +kernel
theorem dX6_survey_145 : decode M_X6_survey.2.1 145 = .ok (.aload_n 0, 1) := by decide +kernel
theorem dX6_survey_146 : decode M_X6_survey.2.1 146 = .ok (.invokevirtual 73, 3) := by decide +kernel
theorem dX6_survey_149 : decode M_X6_survey.2.1 149 = .ok (.iinc 2 1, 3) := by decide +kernel
theorem dX6_survey_152 : decode M_X6_survey.2.1 152 = .ok (.goto (-50), 3) := by decide +kernel
theorem dX6_survey_155 : decode M_X6_survey.2.1 155 = .ok (.return_, 1) := by decide +kernel
def L_X6_survey_29 (X : ZX) (d n : Nat) (P : Option Value → ZSto → Prop) (x1 : Int) (σ : ZSto) : Prop := R32 x1 → ZOk n σ → Zn X M_X6_survey d n P 29 [some (.ref (zB X + 67)), some (iV x1), none] [] σ
def L_X6_survey_102 (X : ZX) (d n : Nat) (P : Option Value → ZSto → Prop) (x1 : Int) (x2 : Int) (σ : ZSto) : Prop := R32 x1 → R32 x2 → ZOk n σ → Zn X M_X6_survey d n P 102 [some (.ref (zB X + 67)), some (iV x1), some (iV x2)] [] σ
theorem w_X6_survey {X : ZX} {d n : Nat} {P : ZSto → Prop}  {σ : ZSto} (hn : 73 ≤ n)  
    (h : ZkV X M_J7_fill_53178 d n [.ref (zB X + 69), iV 0] σ (fun σ2 => ZkV X M_J7_fill_53178 d n [.ref (zB X + 70), iV 0] σ2 (fun σ7 => ZkV X M_X0_copyOf d n [.ref (zB X + 41), .ref (zB X + 33)] σ7 (fun σ12 => L_X6_survey_29 X d n (zpV P) 0 σ12)))) :
    ZkV X M_X6_survey (d + 1) n [.ref (zB X + 67)] σ P := by
  refine zk_of (ls := [some (.ref (zB X + 67)), none, none]) pl_RX6 (Nat.le_of_ble_eq_true rfl) rfl (fun k0 => ?_)
  unfold Zn
  refine r_aload_n dX6_survey_0 rfl ?_
  refine r_getP (a := 69) dX6_survey_1 kf_RX6_15 (zlt hn rfl) sh_67 rfl (k0.1 _ _ _ (zlt hn rfl) p_67_3) ?_
  refine r_iconst dX6_survey_4 ?_
  refine n_callS (N := M_J7_fill_53178) (As := [.ref (zB X + 69), iV 0]) (st := []) dX6_survey_5 mk_J7_fill_53178 km_RX6_38 kd_J7_fill_53178 rfl (zFits_rm d n n n (Nat.le_refl n)) (Nat.le_of_ble_eq_true rfl) rfl k0 h ?_
  rintro _ σ2 k3 ⟨rfl, h5⟩
  change Zm _ _ _ _ _ _ 8 _ [] _
  refine r_aload_n dX6_survey_8 rfl ?_
  refine r_getP (a := 70) dX6_survey_9 kf_RX6_19 (zlt hn rfl) sh_67 rfl (k3.1 _ _ _ (zlt hn rfl) p_67_4) ?_
  refine r_iconst dX6_survey_12 ?_
  refine n_callS (N := M_J7_fill_53178) (As := [.ref (zB X + 70), iV 0]) (st := []) dX6_survey_13 mk_J7_fill_53178 km_RX6_38 kd_J7_fill_53178 rfl (zFits_rm d n n n (Nat.le_refl n)) (Nat.le_of_ble_eq_true rfl) rfl k3 h5 ?_
  rintro _ σ7 k8 ⟨rfl, h10⟩
  change Zm _ _ _ _ _ _ 16 _ [] _
  refine r_aload_n dX6_survey_16 rfl ?_
  refine r_getP (a := 41) dX6_survey_17 kf_RX6_26 (zlt hn rfl) sh_67 rfl (k8.1 _ _ _ (zlt hn rfl) p_67_1) ?_
  refine r_aload_n dX6_survey_20 rfl ?_
  refine r_getP (a := 33) dX6_survey_21 kf_RX6_22 (zlt hn rfl) sh_67 rfl (k8.1 _ _ _ (zlt hn rfl) p_67_0) ?_
  refine n_callV (N := M_X0_copyOf) (As := [.ref (zB X + 33)]) (st := []) dX6_survey_24 mk_X0_copyOf km_RX6_44 kd_X0_copyOf rfl (zlt hn rfl) sh_41 (q := (RX0, TX0, 13)) rfl rfl (zFits_rm d n n n (Nat.le_refl n)) (Nat.le_of_ble_eq_true rfl) rfl k8 h10 ?_
  rintro _ σ12 k13 ⟨rfl, h15⟩
  change Zm _ _ _ _ _ _ 27 _ [] _
  refine r_iconst dX6_survey_27 ?_
  refine r_istore_n dX6_survey_28 rfl rfl ?_
  exact r_mask [true, true, false] rfl (h15 (r32c rfl) k13)
theorem b_X6_survey_29 {X : ZX} {d n : Nat} {P : ZSto → Prop} {x1 : Int} {σ : ZSto} (hn : 73 ≤ n) 
    (h : (gI σ 33 8 ≤ x1 → (∀ y4 : Int, y4 = gI σ 41 10 → L_X6_survey_102 X d n (zpV P) y4 0 σ)) ∧ (¬ (gI σ 33 8 ≤ x1) → (0 ≤ x1 ∧ x1 < 81) ∧ (gI σ 68 x1.toNat = 0 → R32 (x1 + 1) ∧ L_X6_survey_29 X d n (zpV P) (x1 + 1) σ) ∧ (¬ (gI σ 68 x1.toNat = 0) → ZkZ X M_X0_hasStone d n [.ref (zB X + 33), iV x1] σ (fun v16 σ17 => (v16 = 0 → R32 (x1 + 1) ∧ L_X6_survey_29 X d n (zpV P) (x1 + 1) σ17) ∧ (¬ (v16 = 0) → ZkI X M_X0_contentOf d n [.ref (zB X + 33), iV x1] σ17 (fun v27 σ28 => (0 ≤ v27 ∧ v27 < 3) ∧ R32 ((gI σ28 70 v27.toNat) + 1) ∧ ZkV X M_X0_lay d n [.ref (zB X + 41), iV x1, iV 0] (sI σ28 70 v27.toNat ((gI σ28 70 v27.toNat) + 1)) (fun σ38 => R32 (x1 + 1) ∧ L_X6_survey_29 X d n (zpV P) (x1 + 1) σ38))))))) :
    L_X6_survey_29 X d n (zpV P) x1 σ := by
  intro hx1 k0
  unfold Zn
  refine r_iload_n dX6_survey_29 rfl ?_
  refine r_aload_n dX6_survey_30 rfl ?_
  refine r_getP (a := 33) dX6_survey_31 kf_RX6_22 (zlt hn rfl) sh_67 rfl (k0.1 _ _ _ (zlt hn rfl) p_67_0) ?_
  refine r_getI dX6_survey_34 kf_RX6_48 (zlt hn rfl) sh_33 (Or.inl rfl) rfl ?_
  refine r_icmp_ge (t := 92) dX6_survey_37 rfl hx1 (k0.2.1 _ _) (fun c1 => ?_) (fun c2 => ?_)
  · have h3 := h.1 c1
    refine r_aload_n dX6_survey_92 rfl ?_
    refine r_getP (a := 41) dX6_survey_93 kf_RX6_26 (zlt hn rfl) sh_67 rfl (k0.1 _ _ _ (zlt hn rfl) p_67_1) ?_
    refine r_getI dX6_survey_96 kf_RX6_63 (zlt hn rfl) sh_41 (Or.inl rfl) rfl ?_
    refine r_name (fun y4 e5 => ?_)
    have h6 := h3 y4 e5
    refine r_istore_n dX6_survey_99 rfl rfl ?_
    refine r_iconst dX6_survey_100 ?_
    refine r_istore_n dX6_survey_101 rfl rfl ?_
    exact r_mask [true, true, true] rfl (h6 (by rw [e5]; exact (k0.2.1 _ _)) (r32c rfl) k0)
  · have h7 := h.2 c2
    refine r_aload_n dX6_survey_40 rfl ?_
    refine r_getP (a := 68) dX6_survey_41 kf_RX6_9 (zlt hn rfl) sh_67 rfl (k0.1 _ _ _ (zlt hn rfl) p_67_2) ?_
    refine r_iload_n dX6_survey_44 rfl ?_
    obtain ⟨h8, h9⟩ := h7
    refine r_zaloadE dX6_survey_45 (zlt hn rfl) sh_68 h8.1 h8.2 rfl ?_
    refine r_if_eq (t := 86) dX6_survey_46 rfl (k0.2.1 _ _)  (fun c10 => ?_) (fun c11 => ?_)
    · have h12 := h9.1 c10
      refine r_iinc dX6_survey_86 rfl rfl rfl ?_
      refine r_goto (t := 29) dX6_survey_89 rfl ?_
      obtain ⟨h13, h14⟩ := h12
      exact r_mask [true, true, false] rfl (h14 h13 k0)
    · have h15 := h9.2 c11
      refine r_aload_n dX6_survey_49 rfl ?_
      refine r_getP (a := 33) dX6_survey_50 kf_RX6_22 (zlt hn rfl) sh_67 rfl (k0.1 _ _ _ (zlt hn rfl) p_67_0) ?_
      refine r_iload_n dX6_survey_53 rfl ?_
      refine n_callV (N := M_X0_hasStone) (As := [iV x1]) (st := []) dX6_survey_54 mk_X0_hasStone km_RX6_51 kd_X0_hasStone rfl (zlt hn rfl) sh_33 (q := (RX0, TX0, 13)) rfl rfl (zFits_rm d n n n (Nat.le_refl n)) (Nat.le_of_ble_eq_true rfl) rfl k0 h15 ?_
      rintro _ σ17 k18 ⟨v16, rfl, h19, h20⟩
      change Zm _ _ _ _ _ _ 57 _ [iV v16] _
      refine r_if_eq (t := 86) dX6_survey_57 rfl (r32_z h19)  (fun c21 => ?_) (fun c22 => ?_)
      · have h23 := h20.1 c21
        refine r_iinc dX6_survey_86 rfl rfl rfl ?_
        refine r_goto (t := 29) dX6_survey_89 rfl ?_
        obtain ⟨h24, h25⟩ := h23
        exact r_mask [true, true, false] rfl (h25 h24 k18)
      · have h26 := h20.2 c22
        refine r_aload_n dX6_survey_60 rfl ?_
        refine r_getP (a := 70) dX6_survey_61 kf_RX6_19 (zlt hn rfl) sh_67 rfl (k18.1 _ _ _ (zlt hn rfl) p_67_4) ?_
        refine r_aload_n dX6_survey_64 rfl ?_
        refine r_getP (a := 33) dX6_survey_65 kf_RX6_22 (zlt hn rfl) sh_67 rfl (k18.1 _ _ _ (zlt hn rfl) p_67_0) ?_
        refine r_iload_n dX6_survey_68 rfl ?_
        refine n_callV (N := M_X0_contentOf) (As := [iV x1]) (st := [.ref (zB X + 70)]) dX6_survey_69 mk_X0_contentOf km_RX6_55 kd_X0_contentOf rfl (zlt hn rfl) sh_33 (q := (RX0, TX0, 13)) rfl rfl (zFits_rm d n n n (Nat.le_refl n)) (Nat.le_of_ble_eq_true rfl) rfl k18 h26 ?_
        rintro _ σ28 k29 ⟨v27, rfl, h30, h31⟩
        change Zm _ _ _ _ _ _ 72 _ [iV v27, .ref (zB X + 70)] _
        refine r_dup2 dX6_survey_72 rfl rfl ?_
        obtain ⟨h32, h33⟩ := h31
        refine r_ialoadE dX6_survey_73 (zlt hn rfl) sh_70 h32.1 h32.2 rfl ?_
        refine r_iconst dX6_survey_74 ?_
        refine r_iadd dX6_survey_75 ?_
        obtain ⟨h35, h36⟩ := h33
        refine r_iastore dX6_survey_76 (zlt hn rfl) sh_70 h32.1 h32.2 ?_
        have k34 := zok_i (i := v27.toNat) (x := (gI σ28 70 v27.toNat) + 1) k29 sh_70 h35
        refine r_aload_n dX6_survey_77 rfl ?_
        refine r_getP (a := 41) dX6_survey_78 kf_RX6_26 (zlt hn rfl) sh_67 rfl (k34.1 _ _ _ (zlt hn rfl) p_67_1) ?_
        refine r_iload_n dX6_survey_81 rfl ?_
        refine r_iconst dX6_survey_82 ?_
        refine n_callV (N := M_X0_lay) (As := [iV x1, iV 0]) (st := []) dX6_survey_83 mk_X0_lay km_RX6_59 kd_X0_lay rfl (zlt hn rfl) sh_41 (q := (RX0, TX0, 13)) rfl rfl (zFits_rm d n n n (Nat.le_refl n)) (Nat.le_of_ble_eq_true rfl) rfl k34 h36 ?_
        rintro _ σ38 k39 ⟨rfl, h41⟩
        change Zm _ _ _ _ _ _ 86 _ [] _
        refine r_iinc dX6_survey_86 rfl rfl rfl ?_
        refine r_goto (t := 29) dX6_survey_89 rfl ?_
        obtain ⟨h42, h43⟩ := h41
        exact r_mask [true, true, false] rfl (h43 h42 k39)
theorem b_X6_survey_102 {X : ZX} {d n : Nat} {P : ZSto → Prop} {x1 : Int} {x2 : Int} {σ : ZSto} (hn : 73 ≤ n) 
    (h : (gI σ 41 8 ≤ x2 → P σ) ∧ (¬ (gI σ 41 8 ≤ x2) → ZkI X M_X0_contentOf d n [.ref (zB X + 41), iV x2] σ (fun v5 σ6 => (¬ v5 = 0 → R32 (x2 + 1) ∧ L_X6_survey_102 X d n (zpV P) x1 (x2 + 1) σ6) ∧ (v5 = 0 → ZkZ X M_X0_gatheredSince d n [.ref (zB X + 41), iV x2, iV x1] σ6 (fun v16 σ17 => (¬ v16 = 0 → R32 (x2 + 1) ∧ L_X6_survey_102 X d n (zpV P) x1 (x2 + 1) σ17) ∧ (v16 = 0 → ZkV X M_X0_gather d n [.ref (zB X + 41), iV x2, iV 1] σ17 (fun σ28 => ZkV X M_X6_giveToOwner d n [.ref (zB X + 67)] σ28 (fun σ33 => R32 (x2 + 1) ∧ L_X6_survey_102 X d n (zpV P) x1 (x2 + 1) σ33)))))))) :
    L_X6_survey_102 X d n (zpV P) x1 x2 σ := by
  intro hx1 hx2 k0
  unfold Zn
  refine r_iload_n dX6_survey_102 rfl ?_
  refine r_aload_n dX6_survey_103 rfl ?_
  refine r_getP (a := 41) dX6_survey_104 kf_RX6_26 (zlt hn rfl) sh_67 rfl (k0.1 _ _ _ (zlt hn rfl) p_67_1) ?_
  refine r_getI dX6_survey_107 kf_RX6_48 (zlt hn rfl) sh_41 (Or.inl rfl) rfl ?_
  refine r_icmp_ge (t := 155) dX6_survey_110 rfl hx2 (k0.2.1 _ _) (fun c1 => ?_) (fun c2 => ?_)
  · have h3 := h.1 c1
    exact r_return dX6_survey_155 rfl ⟨k0, rfl, h3⟩
  · have h4 := h.2 c2
    refine r_aload_n dX6_survey_113 rfl ?_
    refine r_getP (a := 41) dX6_survey_114 kf_RX6_26 (zlt hn rfl) sh_67 rfl (k0.1 _ _ _ (zlt hn rfl) p_67_1) ?_
    refine r_iload_n dX6_survey_117 rfl ?_
    refine n_callV (N := M_X0_contentOf) (As := [iV x2]) (st := []) dX6_survey_118 mk_X0_contentOf km_RX6_55 kd_X0_contentOf rfl (zlt hn rfl) sh_41 (q := (RX0, TX0, 13)) rfl rfl (zFits_rm d n n n (Nat.le_refl n)) (Nat.le_of_ble_eq_true rfl) rfl k0 h4 ?_
    rintro _ σ6 k7 ⟨v5, rfl, h8, h9⟩
    change Zm _ _ _ _ _ _ 121 _ [iV v5] _
    refine r_if_ne (t := 149) dX6_survey_121 rfl h8  (fun c10 => ?_) (fun c11 => ?_)
    · have h12 := h9.1 c10
      refine r_iinc dX6_survey_149 rfl rfl rfl ?_
      refine r_goto (t := 102) dX6_survey_152 rfl ?_
      obtain ⟨h13, h14⟩ := h12
      exact r_mask [true, true, true] rfl (h14 hx1 h13 k7)
    · have h15 := h9.2 c11
      refine r_aload_n dX6_survey_124 rfl ?_
      refine r_getP (a := 41) dX6_survey_125 kf_RX6_26 (zlt hn rfl) sh_67 rfl (k7.1 _ _ _ (zlt hn rfl) p_67_1) ?_
      refine r_iload_n dX6_survey_128 rfl ?_
      refine r_iload_n dX6_survey_129 rfl ?_
      refine n_callV (N := M_X0_gatheredSince) (As := [iV x2, iV x1]) (st := []) dX6_survey_130 mk_X0_gatheredSince km_RX6_66 kd_X0_gatheredSince rfl (zlt hn rfl) sh_41 (q := (RX0, TX0, 13)) rfl rfl (zFits_rm d n n n (Nat.le_refl n)) (Nat.le_of_ble_eq_true rfl) rfl k7 h15 ?_
      rintro _ σ17 k18 ⟨v16, rfl, h19, h20⟩
      change Zm _ _ _ _ _ _ 133 _ [iV v16] _
      refine r_if_ne (t := 149) dX6_survey_133 rfl (r32_z h19)  (fun c21 => ?_) (fun c22 => ?_)
      · have h23 := h20.1 c21
        refine r_iinc dX6_survey_149 rfl rfl rfl ?_
        refine r_goto (t := 102) dX6_survey_152 rfl ?_
        obtain ⟨h24, h25⟩ := h23
        exact r_mask [true, true, true] rfl (h25 hx1 h24 k18)
      · have h26 := h20.2 c22
        refine r_aload_n dX6_survey_136 rfl ?_
        refine r_getP (a := 41) dX6_survey_137 kf_RX6_26 (zlt hn rfl) sh_67 rfl (k18.1 _ _ _ (zlt hn rfl) p_67_1) ?_
        refine r_iload_n dX6_survey_140 rfl ?_
        refine r_iconst dX6_survey_141 ?_
        refine n_callV (N := M_X0_gather) (As := [iV x2, iV 1]) (st := []) dX6_survey_142 mk_X0_gather km_RX6_70 kd_X0_gather rfl (zlt hn rfl) sh_41 (q := (RX0, TX0, 13)) rfl rfl (zFits_rm d n n n (Nat.le_refl n)) (Nat.le_of_ble_eq_true rfl) rfl k18 h26 ?_
        rintro _ σ28 k29 ⟨rfl, h31⟩
        change Zm _ _ _ _ _ _ 145 _ [] _
        refine r_aload_n dX6_survey_145 rfl ?_
        refine n_callV (N := M_X6_giveToOwner) (As := []) (st := []) dX6_survey_146 mk_X6_giveToOwner km_RX6_73 kd_X6_giveToOwner rfl (zlt hn rfl) sh_67 (q := (RX6, TX6, 5)) rfl rfl (zFits_rm d n n n (Nat.le_refl n)) (Nat.le_of_ble_eq_true rfl) rfl k29 h31 ?_
        rintro _ σ33 k34 ⟨rfl, h36⟩
        change Zm _ _ _ _ _ _ 149 _ [] _
        refine r_iinc dX6_survey_149 rfl rfl rfl ?_
        refine r_goto (t := 102) dX6_survey_152 rfl ?_
        obtain ⟨h37, h38⟩ := h36
        exact r_mask [true, true, true] rfl (h38 hx1 h37 k34)
/-! StoneRoom$Tally.giveToOwner -/
theorem dX6_giveToOwner_0 : decode M_X6_giveToOwner.2.1 0 = .ok (.aload_n 0, 1) := by decide +kernel
theorem dX6_giveToOwner_1 : decode M_X6_giveToOwner.2.1 1 = .ok (.getfield 26, 3) := by decide +kernel
theorem dX6_giveToOwner_4 : decode M_X6_giveToOwner.2.1 4 = .ok (.getfield 76, 3) := by decide +kernel
theorem dX6_giveToOwner_7 : decode M_X6_giveToOwner.2.1 7 = .ok (.iconst 1, 1) := by decide +kernel
theorem dX6_giveToOwner_8 : decode M_X6_giveToOwner.2.1 8 = .ok (.iaload, 1) := by decide +kernel
theorem dX6_giveToOwner_9 : decode M_X6_giveToOwner.2.1 9 = .ok (.ifCond .le 7, 3) := by decide +kernel
theorem dX6_giveToOwner_12 : decode M_X6_giveToOwner.2.1 12 = .ok (.iconst 1, 1) := by decide +kernel
theorem dX6_giveToOwner_13 : decode M_X6_giveToOwner.2.1 13 = .ok (.goto 4, 3) := by decide +kernel
theorem dX6_giveToOwner_16 : decode M_X6_giveToOwner.2.1 16 = .ok (.iconst 0, 1) := by decide +kernel
theorem dX6_giveToOwner_17 : decode M_X6_giveToOwner.2.1 17 = .ok (.istore_n 1, 1) := by decide +kernel
theorem dX6_giveToOwner_18 : decode M_X6_giveToOwner.2.1 18 = .ok (.aload_n 0, 1) := by decide +kernel
theorem dX6_giveToOwner_19 : decode M_X6_giveToOwner.2.1 19 = .ok (.getfield 26, 3) := by decide +kernel
theorem dX6_giveToOwner_22 : decode M_X6_giveToOwner.2.1 22 = .ok (.getfield 76, 3) := by decide +kernel
theorem dX6_giveToOwner_25 : decode M_X6_giveToOwner.2.1 25 = .ok (.iconst 2, 1) := by decide +kernel
theorem dX6_giveToOwner_26 : decode M_X6_giveToOwner.2.1 26 = .ok (.iaload, 1) := by decide +kernel
theorem dX6_giveToOwner_27 : decode M_X6_giveToOwner.2.1 27 = .ok (.ifCond .le 7, 3) := by decide +kernel
theorem dX6_giveToOwner_30 : decode M_X6_giveToOwner.2.1 30 = .ok (.iconst 1, 1) := by decide +kernel
theorem dX6_giveToOwner_31 : decode M_X6_giveToOwner.2.1 31 = .ok (.goto 4, 3) := by decide +kernel
theorem dX6_giveToOwner_34 : decode M_X6_giveToOwner.2.1 34 = .ok (.iconst 0, 1) := by decide +kernel
theorem dX6_giveToOwner_35 : decode M_X6_giveToOwner.2.1 35 = .ok (.istore_n 2, 1) := by decide +kernel
theorem dX6_giveToOwner_36 : decode M_X6_giveToOwner.2.1 36 = .ok (.iload_n 1, 1) := by decide +kernel
theorem dX6_giveToOwner_37 : decode M_X6_giveToOwner.2.1 37 = .ok (.iload_n 2, 1) := by decide +kernel
theorem dX6_giveToOwner_38 : decode M_X6_giveToOwner.2.1 38 = .ok (.if_icmp .eq 27, 3) := by decide +kernel
theorem dX6_giveToOwner_41 : decode M_X6_giveToOwner.2.1 41 = .ok (.aload_n 0, 1) := by decide +kernel
theorem dX6_giveToOwner_42 : decode M_X6_giveToOwner.2.1 42 = .ok (.getfield 15, 3) := by decide +kernel
theorem dX6_giveToOwner_45 : decode M_X6_giveToOwner.2.1 45 = .ok (.iload_n 1, 1) := by decide +kernel
theorem dX6_giveToOwner_46 : decode M_X6_giveToOwner.2.1 46 = .ok (.ifCond .eq 7, 3) := by decide +kernel
theorem dX6_giveToOwner_49 : decode M_X6_giveToOwner.2.1 49 = .ok (.iconst 1, 1) := by decide +kernel
theorem dX6_giveToOwner_50 : decode M_X6_giveToOwner.2.1 50 = .ok (.goto 4, 3) := by decide +kernel
theorem dX6_giveToOwner_53 : decode M_X6_giveToOwner.2.1 53 = .ok (.iconst 2, 1) := by decide +kernel
theorem dX6_giveToOwner_54 : decode M_X6_giveToOwner.2.1 54 = .ok (.dup2, 1) := by decide +kernel
theorem dX6_giveToOwner_55 : decode M_X6_giveToOwner.2.1 55 = .ok (.iaload, 1) := by decide +kernel
theorem dX6_giveToOwner_56 : decode M_X6_giveToOwner.2.1 56 = .ok (.aload_n 0, 1) := by decide +kernel
theorem dX6_giveToOwner_57 : decode M_X6_giveToOwner.2.1 57 = .ok (.getfield 26, 3) := by decide +kernel
theorem dX6_giveToOwner_60 : decode M_X6_giveToOwner.2.1 60 = .ok (.getfield 29, 3) := by decide +kernel
theorem dX6_giveToOwner_63 : decode M_X6_giveToOwner.2.1 63 = .ok (.iadd, 1) := by decide +kernel
theorem dX6_giveToOwner_64 : decode M_X6_giveToOwner.2.1 64 = .ok (.iastore, 1) := by decide +kernel
theorem dX6_giveToOwner_65 : decode M_X6_giveToOwner.2.1 65 = .ok (.return_, 1) := by decide +kernel
def L_X6_giveToOwner_17 (X : ZX) (d n : Nat) (P : Option Value → ZSto → Prop) (x20 : Int) (σ : ZSto) : Prop := R32 x20 → ZOk n σ → Zn X M_X6_giveToOwner d n P 17 [some (.ref (zB X + 67)), none, none] [iV x20] σ
def L_X6_giveToOwner_35 (X : ZX) (d n : Nat) (P : Option Value → ZSto → Prop) (x1 : Int) (x20 : Int) (σ : ZSto) : Prop := R32 x1 → R32 x20 → ZOk n σ → Zn X M_X6_giveToOwner d n P 35 [some (.ref (zB X + 67)), some (iV x1), none] [iV x20] σ
theorem w_X6_giveToOwner {X : ZX} {d n : Nat} {P : ZSto → Prop}  {σ : ZSto} (hn : 73 ≤ n)  
    (h : (gI σ 47 1 ≤ 0 → L_X6_giveToOwner_17 X d n (zpV P) 0 σ) ∧ (¬ (gI σ 47 1 ≤ 0) → L_X6_giveToOwner_17 X d n (zpV P) 1 σ)) :
    ZkV X M_X6_giveToOwner (d + 1) n [.ref (zB X + 67)] σ P := by
  refine zk_of (ls := [some (.ref (zB X + 67)), none, none]) pl_RX6 (Nat.le_of_ble_eq_true rfl) rfl (fun k0 => ?_)
  unfold Zn
  refine r_aload_n dX6_giveToOwner_0 rfl ?_
  refine r_getP (a := 41) dX6_giveToOwner_1 kf_RX6_26 (zlt hn rfl) sh_67 rfl (k0.1 _ _ _ (zlt hn rfl) p_67_1) ?_
  refine r_getP (a := 47) dX6_giveToOwner_4 kf_RX6_76 (zlt hn rfl) sh_41 rfl (k0.1 _ _ _ (zlt hn rfl) (zB_p5 (Or.inr rfl))) ?_
  refine r_iconst dX6_giveToOwner_7 ?_
  refine r_ialoadE dX6_giveToOwner_8 (zlt hn rfl) sh_47 (by decide) (by decide) rfl ?_
  refine r_if_le (t := 16) dX6_giveToOwner_9 rfl (k0.2.1 _ _)  (fun c1 => ?_) (fun c2 => ?_)
  · have h3 := h.1 c1
    refine r_iconst dX6_giveToOwner_16 ?_
    exact r_mask [true, false, false] rfl (h3 (r32c rfl) k0)
  · have h4 := h.2 c2
    refine r_iconst dX6_giveToOwner_12 ?_
    refine r_goto (t := 17) dX6_giveToOwner_13 rfl ?_
    exact r_mask [true, false, false] rfl (h4 (r32c rfl) k0)
theorem b_X6_giveToOwner_17 {X : ZX} {d n : Nat} {P : ZSto → Prop} {x20 : Int} {σ : ZSto} (hn : 73 ≤ n) 
    (h : (gI σ 47 2 ≤ 0 → L_X6_giveToOwner_35 X d n (zpV P) x20 0 σ) ∧ (¬ (gI σ 47 2 ≤ 0) → L_X6_giveToOwner_35 X d n (zpV P) x20 1 σ)) :
    L_X6_giveToOwner_17 X d n (zpV P) x20 σ := by
  intro hx20 k0
  unfold Zn
  refine r_istore_n dX6_giveToOwner_17 rfl rfl ?_
  refine r_aload_n dX6_giveToOwner_18 rfl ?_
  refine r_getP (a := 41) dX6_giveToOwner_19 kf_RX6_26 (zlt hn rfl) sh_67 rfl (k0.1 _ _ _ (zlt hn rfl) p_67_1) ?_
  refine r_getP (a := 47) dX6_giveToOwner_22 kf_RX6_76 (zlt hn rfl) sh_41 rfl (k0.1 _ _ _ (zlt hn rfl) (zB_p5 (Or.inr rfl))) ?_
  refine r_iconst dX6_giveToOwner_25 ?_
  refine r_ialoadE dX6_giveToOwner_26 (zlt hn rfl) sh_47 (by decide) (by decide) rfl ?_
  refine r_if_le (t := 34) dX6_giveToOwner_27 rfl (k0.2.1 _ _)  (fun c1 => ?_) (fun c2 => ?_)
  · have h3 := h.1 c1
    refine r_iconst dX6_giveToOwner_34 ?_
    exact r_mask [true, true, false] rfl (h3 hx20 (r32c rfl) k0)
  · have h4 := h.2 c2
    refine r_iconst dX6_giveToOwner_30 ?_
    refine r_goto (t := 35) dX6_giveToOwner_31 rfl ?_
    exact r_mask [true, true, false] rfl (h4 hx20 (r32c rfl) k0)
theorem b_X6_giveToOwner_35 {X : ZX} {d n : Nat} {P : ZSto → Prop} {x1 : Int} {x20 : Int} {σ : ZSto} (hn : 73 ≤ n) 
    (h : (x1 = x20 → P σ) ∧ (¬ (x1 = x20) → (x1 = 0 → R32 ((gI σ 69 2) + (gI σ 41 9)) ∧ P (sI σ 69 2 ((gI σ 69 2) + (gI σ 41 9)))) ∧ (¬ (x1 = 0) → R32 ((gI σ 69 1) + (gI σ 41 9)) ∧ P (sI σ 69 1 ((gI σ 69 1) + (gI σ 41 9)))))) :
    L_X6_giveToOwner_35 X d n (zpV P) x1 x20 σ := by
  intro hx1 hx20 k0
  unfold Zn
  refine r_istore_n dX6_giveToOwner_35 rfl rfl ?_
  refine r_iload_n dX6_giveToOwner_36 rfl ?_
  refine r_iload_n dX6_giveToOwner_37 rfl ?_
  refine r_icmp_eq (t := 65) dX6_giveToOwner_38 rfl hx1 hx20 (fun c1 => ?_) (fun c2 => ?_)
  · have h3 := h.1 c1
    exact r_return dX6_giveToOwner_65 rfl ⟨k0, rfl, h3⟩
  · have h4 := h.2 c2
    refine r_aload_n dX6_giveToOwner_41 rfl ?_
    refine r_getP (a := 69) dX6_giveToOwner_42 kf_RX6_15 (zlt hn rfl) sh_67 rfl (k0.1 _ _ _ (zlt hn rfl) p_67_3) ?_
    refine r_iload_n dX6_giveToOwner_45 rfl ?_
    refine r_if_eq (t := 53) dX6_giveToOwner_46 rfl hx1  (fun c5 => ?_) (fun c6 => ?_)
    · have h7 := h4.1 c5
      refine r_iconst dX6_giveToOwner_53 ?_
      refine r_dup2 dX6_giveToOwner_54 rfl rfl ?_
      refine r_ialoadE dX6_giveToOwner_55 (zlt hn rfl) sh_69 (by decide) (by decide) rfl ?_
      refine r_aload_n dX6_giveToOwner_56 rfl ?_
      refine r_getP (a := 41) dX6_giveToOwner_57 kf_RX6_26 (zlt hn rfl) sh_67 rfl (k0.1 _ _ _ (zlt hn rfl) p_67_1) ?_
      refine r_getI dX6_giveToOwner_60 kf_RX6_29 (zlt hn rfl) sh_41 (Or.inl rfl) rfl ?_
      refine r_iadd dX6_giveToOwner_63 ?_
      obtain ⟨h9, h10⟩ := h7
      refine r_iastore dX6_giveToOwner_64 (zlt hn rfl) sh_69 (by decide) (by decide) ?_
      have k8 := zok_i (i := 2) (x := (gI σ 69 2) + (gI σ 41 9)) k0 sh_69 h9
      exact r_return dX6_giveToOwner_65 rfl ⟨k8, rfl, h10⟩
    · have h11 := h4.2 c6
      refine r_iconst dX6_giveToOwner_49 ?_
      refine r_goto (t := 54) dX6_giveToOwner_50 rfl ?_
      refine r_dup2 dX6_giveToOwner_54 rfl rfl ?_
      refine r_ialoadE dX6_giveToOwner_55 (zlt hn rfl) sh_69 (by decide) (by decide) rfl ?_
      refine r_aload_n dX6_giveToOwner_56 rfl ?_
      refine r_getP (a := 41) dX6_giveToOwner_57 kf_RX6_26 (zlt hn rfl) sh_67 rfl (k0.1 _ _ _ (zlt hn rfl) p_67_1) ?_
      refine r_getI dX6_giveToOwner_60 kf_RX6_29 (zlt hn rfl) sh_41 (Or.inl rfl) rfl ?_
      refine r_iadd dX6_giveToOwner_63 ?_
      obtain ⟨h13, h14⟩ := h11
      refine r_iastore dX6_giveToOwner_64 (zlt hn rfl) sh_69 (by decide) (by decide) ?_
      have k12 := zok_i (i := 1) (x := (gI σ 69 1) + (gI σ 41 9)) k0 sh_69 h13
      exact r_return dX6_giveToOwner_65 rfl ⟨k12, rfl, h14⟩
/-! StoneRoom$Tally.standingOf -/
theorem dX6_standingOf_0 : decode M_X6_standingOf.2.1 0 = .ok (.aload_n 0, 1) := by decide +kernel
theorem dX6_standingOf_1 : decode M_X6_standingOf.2.1 1 = .ok (.getfield 26, 3) := by decide +kernel
theorem dX6_standingOf_4 : decode M_X6_standingOf.2.1 4 = .ok (.iload_n 1, 1) := by decide +kernel
theorem dX6_standingOf_5 : decode M_X6_standingOf.2.1 5 = .ok (.invokevirtual 79, 3) := by decide +kernel
theorem dX6_standingOf_8 : decode M_X6_standingOf.2.1 8 = .ok (.ireturn, 1) := by decide +kernel
theorem w_X6_standingOf {X : ZX} {d n : Nat} {P : Int → ZSto → Prop} {x1 : Int} {σ : ZSto} (hn : 73 ≤ n)  (hx1 : R32 x1)
    (h : ZkI X M_X0_countOf d n [.ref (zB X + 41), iV x1] σ (fun v1 σ2 => P v1 σ2)) :
    ZkI X M_X6_standingOf (d + 1) n [.ref (zB X + 67), iV x1] σ P := by
  refine zk_of (ls := [some (.ref (zB X + 67)), some (iV x1)]) pl_RX6 (Nat.le_of_ble_eq_true rfl) rfl (fun k0 => ?_)
  unfold Zn
  refine r_aload_n dX6_standingOf_0 rfl ?_
  refine r_getP (a := 41) dX6_standingOf_1 kf_RX6_26 (zlt hn rfl) sh_67 rfl (k0.1 _ _ _ (zlt hn rfl) p_67_1) ?_
  refine r_iload_n dX6_standingOf_4 rfl ?_
  refine n_callV (N := M_X0_countOf) (As := [iV x1]) (st := []) dX6_standingOf_5 mk_X0_countOf km_RX6_79 kd_X0_countOf rfl (zlt hn rfl) sh_41 (q := (RX0, TX0, 13)) rfl rfl (zFits_rm d n n n (Nat.le_refl n)) (Nat.le_of_ble_eq_true rfl) rfl k0 h ?_
  rintro _ σ2 k3 ⟨v1, rfl, h4, h5⟩
  change Zm _ _ _ _ _ _ 8 _ [iV v1] _
  exact r_ireturn dX6_standingOf_8 rfl ⟨k3, _, rfl, h4, h5⟩
/-! StoneRoom$Tally.landOf -/
theorem dX6_landOf_0 : decode M_X6_landOf.2.1 0 = .ok (.iload_n 1, 1) := by decide +kernel
theorem dX6_landOf_1 : decode M_X6_landOf.2.1 1 = .ok (.invokestatic 82, 3) := by decide +kernel
theorem dX6_landOf_4 : decode M_X6_landOf.2.1 4 = .ok (.ifCond .eq 12, 3) := by decide +kernel
theorem dX6_landOf_7 : decode M_X6_landOf.2.1 7 = .ok (.aload_n 0, 1) := by decide +kernel
theorem dX6_landOf_8 : decode M_X6_landOf.2.1 8 = .ok (.getfield 15, 3) := by decide +kernel
theorem dX6_landOf_11 : decode M_X6_landOf.2.1 11 = .ok (.iload_n 1, 1) := by decide +kernel
theorem dX6_landOf_12 : decode M_X6_landOf.2.1 12 = .ok (.iaload, 1) := by decide +kernel
theorem dX6_landOf_13 : decode M_X6_landOf.2.1 13 = .ok (.goto 4, 3) := by decide +kernel
theorem dX6_landOf_16 : decode M_X6_landOf.2.1 16 = .ok (.iconst 0, 1) := by decide +kernel
theorem dX6_landOf_17 : decode M_X6_landOf.2.1 17 = .ok (.ireturn, 1) := by decide +kernel
theorem w_X6_landOf {X : ZX} {d n : Nat} {P : Int → ZSto → Prop} {x1 : Int} {σ : ZSto} (hn : 73 ≤ n)  (hx1 : R32 x1)
    (h : ZkZ X M_X9_isColour d n [iV x1] σ (fun v1 σ2 => (v1 = 0 → P 0 σ2) ∧ (¬ (v1 = 0) → (0 ≤ x1 ∧ x1 < 3) ∧ P (gI σ2 69 x1.toNat) σ2))) :
    ZkI X M_X6_landOf (d + 1) n [.ref (zB X + 67), iV x1] σ P := by
  refine zk_of (ls := [some (.ref (zB X + 67)), some (iV x1)]) pl_RX6 (Nat.le_of_ble_eq_true rfl) rfl (fun k0 => ?_)
  unfold Zn
  refine r_iload_n dX6_landOf_0 rfl ?_
  refine n_callS (N := M_X9_isColour) (As := [iV x1]) (st := []) dX6_landOf_1 mk_X9_isColour km_RX6_82 kd_X9_isColour rfl (zFits_rm d n n n (Nat.le_refl n)) (Nat.le_of_ble_eq_true rfl) rfl k0 h ?_
  rintro _ σ2 k3 ⟨v1, rfl, h4, h5⟩
  change Zm _ _ _ _ _ _ 4 _ [iV v1] _
  refine r_if_eq (t := 16) dX6_landOf_4 rfl (r32_z h4)  (fun c6 => ?_) (fun c7 => ?_)
  · have h8 := h5.1 c6
    refine r_iconst dX6_landOf_16 ?_
    exact r_ireturn dX6_landOf_17 rfl ⟨k3, _, rfl, (r32c rfl), h8⟩
  · have h9 := h5.2 c7
    refine r_aload_n dX6_landOf_7 rfl ?_
    refine r_getP (a := 69) dX6_landOf_8 kf_RX6_15 (zlt hn rfl) sh_67 rfl (k3.1 _ _ _ (zlt hn rfl) p_67_3) ?_
    refine r_iload_n dX6_landOf_11 rfl ?_
    obtain ⟨h10, h11⟩ := h9
    refine r_ialoadE dX6_landOf_12 (zlt hn rfl) sh_69 h10.1 h10.2 rfl ?_
    refine r_goto (t := 17) dX6_landOf_13 rfl ?_
    exact r_ireturn dX6_landOf_17 rfl ⟨k3, _, rfl, (k3.2.1 _ _), h11⟩
/-! StoneRoom$Tally.deadOf -/
theorem dX6_deadOf_0 : decode M_X6_deadOf.2.1 0 = .ok (.iload_n 1, 1) := by decide +kernel
theorem dX6_deadOf_1 : decode M_X6_deadOf.2.1 1 = .ok (.invokestatic 82, 3) := by decide +kernel
theorem dX6_deadOf_4 : decode M_X6_deadOf.2.1 4 = .ok (.ifCond .eq 12, 3) := by decide +kernel
theorem dX6_deadOf_7 : decode M_X6_deadOf.2.1 7 = .ok (.aload_n 0, 1) := by decide +kernel
theorem dX6_deadOf_8 : decode M_X6_deadOf.2.1 8 = .ok (.getfield 19, 3) := by decide +kernel
theorem dX6_deadOf_11 : decode M_X6_deadOf.2.1 11 = .ok (.iload_n 1, 1) := by decide +kernel
theorem dX6_deadOf_12 : decode M_X6_deadOf.2.1 12 = .ok (.iaload, 1) := by decide +kernel
theorem dX6_deadOf_13 : decode M_X6_deadOf.2.1 13 = .ok (.goto 4, 3) := by decide +kernel
theorem dX6_deadOf_16 : decode M_X6_deadOf.2.1 16 = .ok (.iconst 0, 1) := by decide +kernel
theorem dX6_deadOf_17 : decode M_X6_deadOf.2.1 17 = .ok (.ireturn, 1) := by decide +kernel
theorem w_X6_deadOf {X : ZX} {d n : Nat} {P : Int → ZSto → Prop} {x1 : Int} {σ : ZSto} (hn : 73 ≤ n)  (hx1 : R32 x1)
    (h : ZkZ X M_X9_isColour d n [iV x1] σ (fun v1 σ2 => (v1 = 0 → P 0 σ2) ∧ (¬ (v1 = 0) → (0 ≤ x1 ∧ x1 < 3) ∧ P (gI σ2 70 x1.toNat) σ2))) :
    ZkI X M_X6_deadOf (d + 1) n [.ref (zB X + 67), iV x1] σ P := by
  refine zk_of (ls := [some (.ref (zB X + 67)), some (iV x1)]) pl_RX6 (Nat.le_of_ble_eq_true rfl) rfl (fun k0 => ?_)
  unfold Zn
  refine r_iload_n dX6_deadOf_0 rfl ?_
  refine n_callS (N := M_X9_isColour) (As := [iV x1]) (st := []) dX6_deadOf_1 mk_X9_isColour km_RX6_82 kd_X9_isColour rfl (zFits_rm d n n n (Nat.le_refl n)) (Nat.le_of_ble_eq_true rfl) rfl k0 h ?_
  rintro _ σ2 k3 ⟨v1, rfl, h4, h5⟩
  change Zm _ _ _ _ _ _ 4 _ [iV v1] _
  refine r_if_eq (t := 16) dX6_deadOf_4 rfl (r32_z h4)  (fun c6 => ?_) (fun c7 => ?_)
  · have h8 := h5.1 c6
    refine r_iconst dX6_deadOf_16 ?_
    exact r_ireturn dX6_deadOf_17 rfl ⟨k3, _, rfl, (r32c rfl), h8⟩
  · have h9 := h5.2 c7
    refine r_aload_n dX6_deadOf_7 rfl ?_
    refine r_getP (a := 70) dX6_deadOf_8 kf_RX6_19 (zlt hn rfl) sh_67 rfl (k3.1 _ _ _ (zlt hn rfl) p_67_4) ?_
    refine r_iload_n dX6_deadOf_11 rfl ?_
    obtain ⟨h10, h11⟩ := h9
    refine r_ialoadE dX6_deadOf_12 (zlt hn rfl) sh_70 h10.1 h10.2 rfl ?_
    refine r_goto (t := 17) dX6_deadOf_13 rfl ?_
    exact r_ireturn dX6_deadOf_17 rfl ⟨k3, _, rfl, (k3.2.1 _ _), h11⟩
