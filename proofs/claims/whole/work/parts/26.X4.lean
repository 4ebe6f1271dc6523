/-! StoneRoom$Life.tellRegion -/
theorem dX4_tellRegion_0 : decode M_X4_tellRegion.2.1 0 = .ok (.aload_n 0, 1) := by decide +kernel
theorem dX4_tellRegion_1 : decode M_X4_tellRegion.2.1 1 = .ok (.iload_n 1, 1) := by decide +kernel
theorem dX4_tellRegion_2 : decode M_X4_tellRegion.2.1 2 = .ok (.invokevirtual 45, 3) := by decide +kernel
theorem dX4_tellRegion_5 : decode M_X4_tellRegion.2.1 5 = .ok (.aload_n 0, 1) := by decide +kernel
theorem dX4_tellRegion_6 : decode M_X4_tellRegion.2.1 6 = .ok (.getfield 41, 3) := by decide +kernel
theorem dX4_tellRegion_9 : decode M_X4_tellRegion.2.1 9 = .ok (.iload_n 2, 1) := by decide +kernel
theorem dX4_tellRegion_10 : decode M_X4_tellRegion.2.1 10 = .ok (.invokevirtual 49, 3) := by decide +kernel
theorem dX4_tellRegion_13 : decode M_X4_tellRegion.2.1 13 = .ok (.ifCond .eq 12, 3) := by decide +kernel
theorem dX4_tellRegion_16 : decode M_X4_tellRegion.2.1 16 = .ok (.aload_n 0, 1) := by decide +kernel
theorem dX4_tellRegion_17 : decode M_X4_tellRegion.2.1 17 = .ok (.getfield 15, 3) := by decide +kernel
theorem dX4_tellRegion_20 : decode M_X4_tellRegion.2.1 20 = .ok (.iload_n 2, 1) := by decide +kernel
theorem dX4_tellRegion_21 : decode M_X4_tellRegion.2.1 21 = .ok (.iaload, 1) := by decide +kernel
theorem dX4_tellRegion_22 : decode M_X4_tellRegion.2.1 22 = .ok (.goto 4, 3) := by decide +kernel
theorem dX4_tellRegion_25 : decode M_X4_tellRegion.2.1 25 = .ok (.iconst (-1), 1) := by decide +kernel
theorem dX4_tellRegion_26 : decode M_X4_tellRegion.2.1 26 = .ok (.istore 4, 2) := by decide +kernel
theorem dX4_tellRegion_28 : decode M_X4_tellRegion.2.1 28 = .ok (.iload 4, 2) := by decide +kernel
theorem dX4_tellRegion_30 : decode M_X4_tellRegion.2.1 30 = .ok (.ifCond .lt 19, 3) := by decide +kernel
theorem dX4_tellRegion_33 : decode M_X4_tellRegion.2.1 33 = .ok (.iload 4, 2) := by decide +kernel
theorem dX4_tellRegion_35 : decode M_X4_tellRegion.2.1 35 = .ok (.aload_n 0, 1) := by decide +kernel
theorem dX4_tellRegion_36 : decode M_X4_tellRegion.2.1 36 = .ok (.getfield 38, 3) := by decide +kernel
theorem dX4_tellRegion_39 : decode M_X4_tellRegion.2.1 39 = .ok (.if_icmp .ge 10, 3) := by decide +kernel
theorem dX4_tellRegion_42 : decode M_X4_tellRegion.2.1 42 = .ok (.iload 4, 2) := by decide +kernel
theorem dX4_tellRegion_44 : decode M_X4_tellRegion.2.1 44 = .ok (.bipush 64, 2) := by decide +kernel
theorem dX4_tellRegion_46 : decode M_X4_tellRegion.2.1 46 = .ok (.if_icmp .lt 5, 3) := by decide +kernel
theorem dX4_tellRegion_49 : decode M_X4_tellRegion.2.1 49 = .ok (.iconst (-1), 1) := by decide +kernel
theorem dX4_tellRegion_50 : decode M_X4_tellRegion.2.1 50 = .ok (.ireturn, 1) := by decide +kernel
theorem dX4_tellRegion_51 : decode M_X4_tellRegion.2.1 51 = .ok (.iload_n 3, 1) := by decide +kernel
theorem dX4_tellRegion_52 : decode M_X4_tellRegion.2.1 52 = .ok (.tableswitch 67 0 3 #[32, 40, 48, 56], 32) := by decide +kernel
theorem dX4_tellRegion_84 : decode M_X4_tellRegion.2.1 84 = .ok (.aload_n 0, 1) := by decide +kernel
theorem dX4_tellRegion_85 : decode M_X4_tellRegion.2.1 85 = .ok (.getfield 18, 3) := by decide +kernel
theorem dX4_tellRegion_88 : decode M_X4_tellRegion.2.1 88 = .ok (.iload 4, 2) := by decide +kernel
theorem dX4_tellRegion_90 : decode M_X4_tellRegion.2.1 90 = .ok (.iaload, 1) := by decide +kernel
theorem dX4_tellRegion_91 : decode M_X4_tellRegion.2.1 91 = .ok (.ireturn, 1) := by decide +kernel
theorem dX4_tellRegion_92 : decode M_X4_tellRegion.2.1 92 = .ok (.aload_n 0, 1) := by decide +kernel
theorem dX4_tellRegion_93 : decode M_X4_tellRegion.2.1 93 = .ok (.getfield 21, 3) := by decide +kernel
theorem dX4_tellRegion_96 : decode M_X4_tellRegion.2.1 96 = .ok (.iload 4, 2) := by decide +kernel
theorem dX4_tellRegion_98 : decode M_X4_tellRegion.2.1 98 = .ok (.iaload, 1) := by decide +kernel
theorem dX4_tellRegion_99 : decode M_X4_tellRegion.2.1 99 = .ok (.ireturn, 1) := by decide +kernel
theorem dX4_tellRegion_100 : decode M_X4_tellRegion.2.1 100 = .ok (.aload_n 0, 1) := by decide +kernel
theorem dX4_tellRegion_101 : decode M_X4_tellRegion.2.1 101 = .ok (.getfield 24, 3) := by decide +kernel
theorem dX4_tellRegion_104 : decode M_X4_tellRegion.2.1 104 = .ok (.iload 4, 2) := by decide +kernel
theorem dX4_tellRegion_106 : decode M_X4_tellRegion.2.1 106 = .ok (.iaload, 1) := by decide +kernel
theorem dX4_tellRegion_107 : decode M_X4_tellRegion.2.1 107 = .ok (.ireturn, 1) := by decide +kernel
theorem dX4_tellRegion_108 : decode M_X4_tellRegion.2.1 108 = .ok (.aload_n 0, 1) := by decide +kernel
theorem dX4_tellRegion_109 : decode M_X4_tellRegion.2.1 109 = .ok (.getfield 27, 3) := by decide +kernel
theorem dX4_tellRegion_112 : decode M_X4_tellRegion.2.1 112 = .ok (.iload 4, 2) := by decide +kernel
theorem dX4_tellRegion_114 : decode M_X4_tellRegion.2.1 114 = .ok (.laload, 1) := by decide +kernel
theorem dX4_tellRegion_115 : decode M_X4_tellRegion.2.1 115 = .ok (.invokestatic 55, 3) := by decide +kernel
theorem dX4_tellRegion_118 : decode M_X4_tellRegion.2.1 118 = .ok (.ireturn, 1) := by decide +kernel
theorem dX4_tellRegion_119 : decode M_X4_tellRegion.2.1 119 = .ok (.iconst (-1), 1) := by decide +kernel
theorem dX4_tellRegion_120 : decode M_X4_tellRegion.2.1 120 = .ok (.ireturn, 1) := by decide +kernel
def L_X4_tellRegion_26 (X : ZX) (d n : Nat) (P : Option Value → ZSto → Prop) (x3 : Int) (x20 : Int) (σ : ZSto) : Prop := R32 x3 → R32 x20 → ZOk n σ → Zn X M_X4_tellRegion d n P 26 [some (.ref (zB X + 53)), none, none, some (iV x3), none] [iV x20] σ
theorem w_X4_tellRegion {X : ZX} {d n : Nat} {P : Int → ZSto → Prop} {x1 : Int} {x2 : Int} {x3 : Int} {σ : ZSto} (hn : 73 ≤ n)  (hx1 : R32 x1) (hx2 : R32 x2) (hx3 : R32 x3)
    (h : ZkV X M_X4_survey d n [.ref (zB X + 53), iV x1] σ (fun σ2 => ZkZ X M_X0_has d n [.ref (zB X + 33), iV x2] σ2 (fun v6 σ7 => (v6 = 0 → P ((-1)) σ7) ∧ (¬ (v6 = 0) → (0 ≤ x2 ∧ x2 < 81) ∧ L_X4_tellRegion_26 X d n (zpI P) x3 (gI σ7 55 x2.toNat) σ7)))) :
    ZkI X M_X4_tellRegion (d + 1) n [.ref (zB X + 53), iV x1, iV x2, iV x3] σ P := by
  refine zk_of (ls := [some (.ref (zB X + 53)), some (iV x1), some (iV x2), some (iV x3), none]) pl_RX4 (Nat.le_of_ble_eq_true rfl) rfl (fun k0 => ?_)
  unfold Zn
  refine r_aload_n dX4_tellRegion_0 rfl ?_
  refine r_iload_n dX4_tellRegion_1 rfl ?_
  refine n_callV (N := M_X4_survey) (As := [iV x1]) (st := []) dX4_tellRegion_2 mk_X4_survey km_RX4_45 kd_X4_survey rfl (zlt hn rfl) sh_53 (q := (RX4, TX4, 10)) rfl rfl (zFits_rm d n n n (Nat.le_refl n)) (Nat.le_of_ble_eq_true rfl) rfl k0 h ?_
  rintro _ σ2 k3 ⟨rfl, h5⟩
  change Zm _ _ _ _ _ _ 5 _ [] _
  refine r_aload_n dX4_tellRegion_5 rfl ?_
  refine r_getP (a := 33) dX4_tellRegion_6 kf_RX4_41 (zlt hn rfl) sh_53 rfl (k3.1 _ _ _ (zlt hn rfl) p_53_0) ?_
  refine r_iload_n dX4_tellRegion_9 rfl ?_
  refine n_callV (N := M_X0_has) (As := [iV x2]) (st := []) dX4_tellRegion_10 mk_X0_has km_RX4_49 kd_X0_has rfl (zlt hn rfl) sh_33 (q := (RX0, TX0, 13)) rfl rfl (zFits_rm d n n n (Nat.le_refl n)) (Nat.le_of_ble_eq_true rfl) rfl k3 h5 ?_
  rintro _ σ7 k8 ⟨v6, rfl, h9, h10⟩
  change Zm _ _ _ _ _ _ 13 _ [iV v6] _
  refine r_if_eq (t := 25) dX4_tellRegion_13 rfl (r32_z h9)  (fun c11 => ?_) (fun c12 => ?_)
  · have h13 := h10.1 c11
    refine r_iconst dX4_tellRegion_25 ?_
    refine r_istore dX4_tellRegion_26 rfl rfl ?_
    refine r_iload dX4_tellRegion_28 rfl ?_
    refine r_if_lt (t := 49) dX4_tellRegion_30 rfl (r32c rfl)  (fun _ => ?_) (fun c14 => absurd c14 (by decide))
    refine r_iconst dX4_tellRegion_49 ?_
    exact r_ireturn dX4_tellRegion_50 rfl ⟨k8, _, rfl, (r32c rfl), h13⟩
  · have h15 := h10.2 c12
    refine r_aload_n dX4_tellRegion_16 rfl ?_
    refine r_getP (a := 55) dX4_tellRegion_17 kf_RX4_15 (zlt hn rfl) sh_53 rfl (k8.1 _ _ _ (zlt hn rfl) p_53_2) ?_
    refine r_iload_n dX4_tellRegion_20 rfl ?_
    obtain ⟨h16, h17⟩ := h15
    refine r_ialoadE dX4_tellRegion_21 (zlt hn rfl) sh_55 h16.1 h16.2 rfl ?_
    refine r_goto (t := 26) dX4_tellRegion_22 rfl ?_
    exact r_mask [true, false, false, true, false] rfl (h17 hx3 (k8.2.1 _ _) k8)
theorem b_X4_tellRegion_26 {X : ZX} {d n : Nat} {P : Int → ZSto → Prop} {x3 : Int} {x20 : Int} {σ : ZSto} (hn : 73 ≤ n) 
    (h : (x20 < 0 → P ((-1)) σ) ∧ (¬ (x20 < 0) → (gI σ 53 9 ≤ x20 → P ((-1)) σ) ∧ (¬ (gI σ 53 9 ≤ x20) → (x20 < 64 → (x3 = 0 → (0 ≤ x20 ∧ x20 < 64) ∧ P (gI σ 56 x20.toNat) σ) ∧ (x3 = 1 → (0 ≤ x20 ∧ x20 < 64) ∧ P (gI σ 57 x20.toNat) σ) ∧ (x3 = 2 → (0 ≤ x20 ∧ x20 < 64) ∧ P (gI σ 58 x20.toNat) σ) ∧ (x3 = 3 → (0 ≤ x20 ∧ x20 < 64) ∧ ZkI X M_J13_bitCount_95d88 d n [.long (gL σ 59 x20.toNat)] σ (fun v28 σ29 => P v28 σ29)) ∧ ((x3 < 0 ∨ 3 < x3) → P ((-1)) σ)) ∧ (¬ (x20 < 64) → P ((-1)) σ)))) :
    L_X4_tellRegion_26 X d n (zpI P) x3 x20 σ := by
  intro hx3 hx20 k0
  unfold Zn
  refine r_istore dX4_tellRegion_26 rfl rfl ?_
  refine r_iload dX4_tellRegion_28 rfl ?_
  refine r_if_lt (t := 49) dX4_tellRegion_30 rfl hx20  (fun c1 => ?_) (fun c2 => ?_)
  · have h3 := h.1 c1
    refine r_iconst dX4_tellRegion_49 ?_
    exact r_ireturn dX4_tellRegion_50 rfl ⟨k0, _, rfl, (r32c rfl), h3⟩
  · have h4 := h.2 c2
    refine r_iload dX4_tellRegion_33 rfl ?_
    refine r_aload_n dX4_tellRegion_35 rfl ?_
    refine r_getI dX4_tellRegion_36 kf_RX4_38 (zlt hn rfl) sh_53 (Or.inl rfl) rfl ?_
    refine r_icmp_ge (t := 49) dX4_tellRegion_39 rfl hx20 (k0.2.1 _ _) (fun c5 => ?_) (fun c6 => ?_)
    · have h7 := h4.1 c5
      refine r_iconst dX4_tellRegion_49 ?_
      exact r_ireturn dX4_tellRegion_50 rfl ⟨k0, _, rfl, (r32c rfl), h7⟩
    · have h8 := h4.2 c6
      refine r_iload dX4_tellRegion_42 rfl ?_
      refine r_bipush dX4_tellRegion_44 rfl ?_
      refine r_icmp_lt (t := 51) dX4_tellRegion_46 rfl hx20 (r32c rfl) (fun c9 => ?_) (fun c10 => ?_)
      · have h11 := h8.1 c9
        refine r_iload_n dX4_tellRegion_51 rfl ?_
        by_cases c12 : x3 = 0
        · have h13 := h11.1 c12
          refine r_tabIn (t := 84) dX4_tellRegion_52 hx3 (by rw [c12]; decide) (by rw [c12]; decide) (by rw [c12]; rfl) rfl ?_
          refine r_aload_n dX4_tellRegion_84 rfl ?_
          refine r_getP (a := 56) dX4_tellRegion_85 kf_RX4_18 (zlt hn rfl) sh_53 rfl (k0.1 _ _ _ (zlt hn rfl) p_53_3) ?_
          refine r_iload dX4_tellRegion_88 rfl ?_
          obtain ⟨h14, h15⟩ := h13
          refine r_ialoadE dX4_tellRegion_90 (zlt hn rfl) sh_56 h14.1 h14.2 rfl ?_
          exact r_ireturn dX4_tellRegion_91 rfl ⟨k0, _, rfl, (k0.2.1 _ _), h15⟩
        by_cases c16 : x3 = 1
        · have h17 := h11.2.1 c16
          refine r_tabIn (t := 92) dX4_tellRegion_52 hx3 (by rw [c16]; decide) (by rw [c16]; decide) (by rw [c16]; rfl) rfl ?_
          refine r_aload_n dX4_tellRegion_92 rfl ?_
          refine r_getP (a := 57) dX4_tellRegion_93 kf_RX4_21 (zlt hn rfl) sh_53 rfl (k0.1 _ _ _ (zlt hn rfl) p_53_4) ?_
          refine r_iload dX4_tellRegion_96 rfl ?_
          obtain ⟨h18, h19⟩ := h17
          refine r_ialoadE dX4_tellRegion_98 (zlt hn rfl) sh_57 h18.1 h18.2 rfl ?_
          exact r_ireturn dX4_tellRegion_99 rfl ⟨k0, _, rfl, (k0.2.1 _ _), h19⟩
        by_cases c20 : x3 = 2
        · have h21 := h11.2.2.1 c20
          refine r_tabIn (t := 100) dX4_tellRegion_52 hx3 (by rw [c20]; decide) (by rw [c20]; decide) (by rw [c20]; rfl) rfl ?_
          refine r_aload_n dX4_tellRegion_100 rfl ?_
          refine r_getP (a := 58) dX4_tellRegion_101 kf_RX4_24 (zlt hn rfl) sh_53 rfl (k0.1 _ _ _ (zlt hn rfl) p_53_5) ?_
          refine r_iload dX4_tellRegion_104 rfl ?_
          obtain ⟨h22, h23⟩ := h21
          refine r_ialoadE dX4_tellRegion_106 (zlt hn rfl) sh_58 h22.1 h22.2 rfl ?_
          exact r_ireturn dX4_tellRegion_107 rfl ⟨k0, _, rfl, (k0.2.1 _ _), h23⟩
        by_cases c24 : x3 = 3
        · have h25 := h11.2.2.2.1 c24
          refine r_tabIn (t := 108) dX4_tellRegion_52 hx3 (by rw [c24]; decide) (by rw [c24]; decide) (by rw [c24]; rfl) rfl ?_
          refine r_aload_n dX4_tellRegion_108 rfl ?_
          refine r_getP (a := 59) dX4_tellRegion_109 kf_RX4_27 (zlt hn rfl) sh_53 rfl (k0.1 _ _ _ (zlt hn rfl) p_53_6) ?_
          refine r_iload dX4_tellRegion_112 rfl ?_
          obtain ⟨h26, h27⟩ := h25
          refine r_laloadE dX4_tellRegion_114 (zlt hn rfl) sh_59 h26.1 h26.2 rfl ?_
          refine n_callS (N := M_J13_bitCount_95d88) (As := [.long (gL σ 59 x20.toNat)]) (st := []) dX4_tellRegion_115 mk_J13_bitCount_95d88 km_RX4_55 kd_J13_bitCount_95d88 rfl (zFits_rm d n n n (Nat.le_refl n)) (Nat.le_of_ble_eq_true rfl) rfl k0 h27 ?_
          rintro _ σ29 k30 ⟨v28, rfl, h31, h32⟩
          change Zm _ _ _ _ _ _ 118 _ [iV v28] _
          exact r_ireturn dX4_tellRegion_118 rfl ⟨k30, _, rfl, h31, h32⟩
        · have c34 : (x3 < 0 ∨ 3 < x3) := by omega
          have h33 := h11.2.2.2.2 c34
          refine r_tabOut (t := 119) dX4_tellRegion_52 hx3 c34 rfl ?_
          refine r_iconst dX4_tellRegion_119 ?_
          exact r_ireturn dX4_tellRegion_120 rfl ⟨k0, _, rfl, (r32c rfl), h33⟩
      · have h35 := h8.2 c10
        refine r_iconst dX4_tellRegion_49 ?_
        exact r_ireturn dX4_tellRegion_50 rfl ⟨k0, _, rfl, (r32c rfl), h35⟩
/-! StoneRoom$Life.lives -/
theorem dX4_lives_0 : decode M_X4_lives.2.1 0 = .ok (.aload_n 0, 1) := by decide +kernel
theorem dX4_lives_1 : decode M_X4_lives.2.1 1 = .ok (.getfield 41, 3) := by decide +kernel
theorem dX4_lives_4 : decode M_X4_lives.2.1 4 = .ok (.iload_n 1, 1) := by decide +kernel
theorem dX4_lives_5 : decode M_X4_lives.2.1 5 = .ok (.invokevirtual 61, 3) := by decide +kernel
theorem dX4_lives_8 : decode M_X4_lives.2.1 8 = .ok (.ifCond .ne 5, 3) := by decide +kernel
theorem dX4_lives_11 : decode M_X4_lives.2.1 11 = .ok (.iconst 0, 1) := by decide +kernel
theorem dX4_lives_12 : decode M_X4_lives.2.1 12 = .ok (.ireturn, 1) := by decide +kernel
theorem dX4_lives_13 : decode M_X4_lives.2.1 13 = .ok (.aload_n 0, 1) := by decide +kernel
theorem dX4_lives_14 : decode M_X4_lives.2.1 14 = .ok (.aload_n 0, 1) := by decide +kernel
theorem dX4_lives_15 : decode M_X4_lives.2.1 15 = .ok (.getfield 41, 3) := by decide +kernel
theorem dX4_lives_18 : decode M_X4_lives.2.1 18 = .ok (.iload_n 1, 1) := by decide +kernel
theorem dX4_lives_19 : decode M_X4_lives.2.1 19 = .ok (.invokevirtual 64, 3) := by decide +kernel
theorem dX4_lives_22 : decode M_X4_lives.2.1 22 = .ok (.invokevirtual 45, 3) := by decide +kernel
theorem dX4_lives_25 : decode M_X4_lives.2.1 25 = .ok (.aload_n 0, 1) := by decide +kernel
theorem dX4_lives_26 : decode M_X4_lives.2.1 26 = .ok (.invokevirtual 68, 3) := by decide +kernel
theorem dX4_lives_29 : decode M_X4_lives.2.1 29 = .ok (.aload_n 0, 1) := by decide +kernel
theorem dX4_lives_30 : decode M_X4_lives.2.1 30 = .ok (.getfield 9, 3) := by decide +kernel
theorem dX4_lives_33 : decode M_X4_lives.2.1 33 = .ok (.iload_n 1, 1) := by decide +kernel
theorem dX4_lives_34 : decode M_X4_lives.2.1 34 = .ok (.iaload, 1) := by decide +kernel
theorem dX4_lives_35 : decode M_X4_lives.2.1 35 = .ok (.lushr, 1) := by decide +kernel
theorem dX4_lives_36 : decode M_X4_lives.2.1 36 = .ok (.lconst 1, 1) := by decide +kernel
theorem dX4_lives_37 : decode M_X4_lives.2.1 37 = .ok (.land, 1) := by decide +kernel
theorem dX4_lives_38 : decode M_X4_lives.2.1 38 = .ok (.lconst 0, 1) := by decide +kernel
theorem dX4_lives_39 : decode M_X4_lives.2.1 39 = .ok (.lcmp, 1) := by decide +kernel
theorem dX4_lives_40 : decode M_X4_lives.2.1 40 = .ok (.ifCond .eq 7, 3) := by decide +kernel
theorem dX4_lives_43 : decode M_X4_lives.2.1 43 = .ok (.iconst 1, 1) := by decide +kernel
theorem dX4_lives_44 : decode M_X4_lives.2.1 44 = .ok (.goto 4, 3) := by decide +kernel
theorem dX4_lives_47 : decode M_X4_lives.2.1 47 = .ok (.iconst 0, 1) := by decide +kernel
theorem dX4_lives_48 : decode M_X4_lives.2.1 48 = .ok (.ireturn, 1) := by decide +kernel
theorem w_X4_lives {X : ZX} {d n : Nat} {P : Int → ZSto → Prop} {x1 : Int} {σ : ZSto} (hn : 73 ≤ n)  (hx1 : R32 x1)
    (h : ZkZ X M_X0_hasStone d n [.ref (zB X + 33), iV x1] σ (fun v1 σ2 => (¬ v1 = 0 → ZkI X M_X0_contentOf d n [.ref (zB X + 33), iV x1] σ2 (fun v9 σ10 => ZkV X M_X4_survey d n [.ref (zB X + 53), iV v9] σ10 (fun σ15 => ZkL X M_X4_livingChains d n [.ref (zB X + 53)] σ15 (fun v19 σ20 => (0 ≤ x1 ∧ x1 < 81) ∧ (lcmpF ((lushrF v19 (gI σ20 54 x1.toNat)) &&& ((1 : Int64))) ((0 : Int64)) = 0 → P 0 σ20) ∧ (¬ (lcmpF ((lushrF v19 (gI σ20 54 x1.toNat)) &&& ((1 : Int64))) ((0 : Int64)) = 0) → P 1 σ20))))) ∧ (v1 = 0 → P 0 σ2))) :
    ZkZ X M_X4_lives (d + 1) n [.ref (zB X + 53), iV x1] σ P := by
  refine zk_of (ls := [some (.ref (zB X + 53)), some (iV x1)]) pl_RX4 (Nat.le_of_ble_eq_true rfl) rfl (fun k0 => ?_)
  unfold Zn
  refine r_aload_n dX4_lives_0 rfl ?_
  refine r_getP (a := 33) dX4_lives_1 kf_RX4_41 (zlt hn rfl) sh_53 rfl (k0.1 _ _ _ (zlt hn rfl) p_53_0) ?_
  refine r_iload_n dX4_lives_4 rfl ?_
  refine n_callV (N := M_X0_hasStone) (As := [iV x1]) (st := []) dX4_lives_5 mk_X0_hasStone km_RX4_61 kd_X0_hasStone rfl (zlt hn rfl) sh_33 (q := (RX0, TX0, 13)) rfl rfl (zFits_rm d n n n (Nat.le_refl n)) (Nat.le_of_ble_eq_true rfl) rfl k0 h ?_
  rintro _ σ2 k3 ⟨v1, rfl, h4, h5⟩
  change Zm _ _ _ _ _ _ 8 _ [iV v1] _
  refine r_if_ne (t := 13) dX4_lives_8 rfl (r32_z h4)  (fun c6 => ?_) (fun c7 => ?_)
  · have h8 := h5.1 c6
    refine r_aload_n dX4_lives_13 rfl ?_
    refine r_aload_n dX4_lives_14 rfl ?_
    refine r_getP (a := 33) dX4_lives_15 kf_RX4_41 (zlt hn rfl) sh_53 rfl (k3.1 _ _ _ (zlt hn rfl) p_53_0) ?_
    refine r_iload_n dX4_lives_18 rfl ?_
    refine n_callV (N := M_X0_contentOf) (As := [iV x1]) (st := [.ref (zB X + 53)]) dX4_lives_19 mk_X0_contentOf km_RX4_64 kd_X0_contentOf rfl (zlt hn rfl) sh_33 (q := (RX0, TX0, 13)) rfl rfl (zFits_rm d n n n (Nat.le_refl n)) (Nat.le_of_ble_eq_true rfl) rfl k3 h8 ?_
    rintro _ σ10 k11 ⟨v9, rfl, h12, h13⟩
    change Zm _ _ _ _ _ _ 22 _ [iV v9, .ref (zB X + 53)] _
    refine n_callV (N := M_X4_survey) (As := [iV v9]) (st := []) dX4_lives_22 mk_X4_survey km_RX4_45 kd_X4_survey rfl (zlt hn rfl) sh_53 (q := (RX4, TX4, 10)) rfl rfl (zFits_rm d n n n (Nat.le_refl n)) (Nat.le_of_ble_eq_true rfl) rfl k11 h13 ?_
    rintro _ σ15 k16 ⟨rfl, h18⟩
    change Zm _ _ _ _ _ _ 25 _ [] _
    refine r_aload_n dX4_lives_25 rfl ?_
    refine n_callV (N := M_X4_livingChains) (As := []) (st := []) dX4_lives_26 mk_X4_livingChains km_RX4_68 kd_X4_livingChains rfl (zlt hn rfl) sh_53 (q := (RX4, TX4, 10)) rfl rfl (zFits_rm d n n n (Nat.le_refl n)) (Nat.le_of_ble_eq_true rfl) rfl k16 h18 ?_
    rintro _ σ20 k21 ⟨v19, rfl, h23⟩
    change Zm _ _ _ _ _ _ 29 _ [.long v19] _
    refine r_aload_n dX4_lives_29 rfl ?_
    refine r_getP (a := 54) dX4_lives_30 kf_RX4_9 (zlt hn rfl) sh_53 rfl (k21.1 _ _ _ (zlt hn rfl) p_53_1) ?_
    refine r_iload_n dX4_lives_33 rfl ?_
    obtain ⟨h24, h25⟩ := h23
    refine r_ialoadE dX4_lives_34 (zlt hn rfl) sh_54 h24.1 h24.2 rfl ?_
    refine r_lushr dX4_lives_35 ?_
    refine r_lconst (v := 1) dX4_lives_36 rfl ?_
    refine r_land dX4_lives_37 ?_
    refine r_lconst (v := 0) dX4_lives_38 rfl ?_
    refine r_lcmp dX4_lives_39 ?_
    refine r_if_eq (t := 47) dX4_lives_40 rfl (r32_lcmp _ _)  (fun c26 => ?_) (fun c27 => ?_)
    · have h28 := h25.1 c26
      refine r_iconst dX4_lives_47 ?_
      exact r_zreturn dX4_lives_48 rfl (Or.inl rfl) ⟨k21, _, rfl, (Or.inl rfl), h28⟩
    · have h29 := h25.2 c27
      refine r_iconst dX4_lives_43 ?_
      refine r_goto (t := 48) dX4_lives_44 rfl ?_
      exact r_zreturn dX4_lives_48 rfl (Or.inr rfl) ⟨k21, _, rfl, (Or.inr rfl), h29⟩
  · have h30 := h5.2 c7
    refine r_iconst dX4_lives_11 ?_
    exact r_zreturn dX4_lives_12 rfl (Or.inl rfl) ⟨k3, _, rfl, (Or.inl rfl), h30⟩
/-! StoneRoom$Life.survey -/
theorem dX4_survey_0 : decode M_X4_survey.2.1 0 = .ok (.aload_n 0, 1) := by decide +kernel
theorem dX4_survey_1 : decode M_X4_survey.2.1 1 = .ok (.iload_n 1, 1) := by decide +kernel
theorem dX4_survey_2 : decode M_X4_survey.2.1 2 = .ok (.invokevirtual 72, 3) := by decide +kernel
theorem dX4_survey_5 : decode M_X4_survey.2.1 5 = .ok (.bipush 7, 2) := by decide +kernel
theorem dX4_survey_7 : decode M_X4_survey.2.1 7 = .ok (.iconst 1, 1) := by decide +kernel
theorem dX4_survey_8 : decode M_X4_survey.2.1 8 = .ok (.iload_n 1, 1) := by decide +kernel
theorem dX4_survey_9 : decode M_X4_survey.2.1 9 = .ok (.ishl, 1) := by decide +kernel
theorem dX4_survey_10 : decode M_X4_survey.2.1 10 = .ok (.iconst (-1), 1) := by decide +kernel
theorem dX4_survey_11 : decode M_X4_survey.2.1 11 = .ok (.ixor, 1) := by decide +kernel
theorem dX4_survey_12 : decode M_X4_survey.2.1 12 = .ok (.iand, 1) := by decide +kernel
theorem dX4_survey_13 : decode M_X4_survey.2.1 13 = .ok (.istore_n 2, 1) := by decide +kernel
theorem dX4_survey_14 : decode M_X4_survey.2.1 14 = .ok (.aload_n 0, 1) := by decide +kernel
theorem dX4_survey_15 : decode M_X4_survey.2.1 15 = .ok (.getfield 41, 3) := by decide +kernel
theorem dX4_survey_18 : decode M_X4_survey.2.1 18 = .ok (.getfield 75, 3) := by decide +kernel
theorem dX4_survey_21 : decode M_X4_survey.2.1 21 = .ok (.istore_n 3, 1) := by decide +kernel
theorem dX4_survey_22 : decode M_X4_survey.2.1 22 = .ok (.aload_n 0, 1) := by decide +kernel
theorem dX4_survey_23 : decode M_X4_survey.2.1 23 = .ok (.iconst 0, 1) := by decide +kernel
theorem dX4_survey_24 : decode M_X4_survey.2.1 24 = .ok (.putfield 38, 3) := by decide +kernel
theorem dX4_survey_27 : decode M_X4_survey.2.1 27 = .ok (.aload_n 0, 1) := by decide +kernel
theorem dX4_survey_28 : decode M_X4_survey.2.1 28 = .ok (.getfield 15, 3) := by decide +kernel
theorem dX4_survey_31 : decode M_X4_survey.2.1 31 = .ok (.iconst (-1), 1) := by decide +kernel
theorem dX4_survey_32 : decode M_X4_survey.2.1 32 = .ok (.invokestatic 78, 3) := by decide +kernel
theorem dX4_survey_35 : decode M_X4_survey.2.1 35 = .ok (.iconst 0, 1) := by decide +kernel
theorem dX4_survey_36 : decode M_X4_survey.2.1 36 = .ok (.istore 4, 2) := by decide +kernel
theorem dX4_survey_38 : decode M_X4_survey.2.1 38 = .ok (.iload 4, 2) := by decide +kernel
theorem dX4_survey_40 : decode M_X4_survey.2.1 40 = .ok (.aload_n 0, 1) := by decide +kernel
theorem dX4_survey_41 : decode M_X4_survey.2.1 41 = .ok (.getfield 41, 3) := by decide +kernel
theorem dX4_survey_44 : decode M_X4_survey.2.1 44 = .ok (.getfield 84, 3) := by decide +kernel
theorem dX4_survey_47 : decode M_X4_survey.2.1 47 = .ok (.if_icmp .ge 72, 3) := by decide +kernel
theorem dX4_survey_50 : decode M_X4_survey.2.1 50 = .ok (.aload_n 0, 1) := by decide +kernel
theorem dX4_survey_51 : decode M_X4_survey.2.1 51 = .ok (.getfield 38, 3) := by decide +kernel
theorem dX4_survey_54 : decode M_X4_survey.2.1 54 = .ok (.bipush 64, 2) := by decide +kernel
theorem dX4_survey_56 : decode M_X4_survey.2.1 56 = .ok (.if_icmp .ge 63, 3) := by decide +kernel
theorem dX4_survey_59 : decode M_X4_survey.2.1 59 = .ok (.aload_n 0, 1) := by decide +kernel
theorem dX4_survey_60 : decode M_X4_survey.2.1 60 = .ok (.getfield 41, 3) := by decide +kernel
theorem dX4_survey_63 : decode M_X4_survey.2.1 63 = .ok (.iload 4, 2) := by decide +kernel
theorem dX4_survey_65 : decode M_X4_survey.2.1 65 = .ok (.invokevirtual 64, 3) := by decide +kernel
theorem dX4_survey_68 : decode M_X4_survey.2.1 68 = .ok (.iload_n 1, 1) := by decide +kernel
theorem dX4_survey_69 : decode M_X4_survey.2.1 69 = .ok (.if_icmp .eq 44, 3) := by decide +kernel
theorem dX4_survey_72 : decode M_X4_survey.2.1 72 = .ok (.aload_n 0, 1) := by decide +kernel
theorem dX4_survey_73 : decode M_X4_survey.2.1 73 = .ok (.getfield 41, 3) := by decide +kernel
theorem dX4_survey_76 : decode M_X4_survey.2.1 76 = .ok (.iload 4, 2) := by decide +kernel
theorem dX4_survey_78 : decode M_X4_survey.2.1 78 = .ok (.iload_n 3, 1) := by decide +kernel
theorem dX4_survey_79 : decode M_X4_survey.2.1 79 = .ok (.invokevirtual 87, 3) := by decide +kernel
theorem dX4_survey_82 : decode M_X4_survey.2.1 82 = .ok (.ifCond .ne 31, 3) := by decide +kernel
theorem dX4_survey_85 : decode M_X4_survey.2.1 85 = .ok (.aload_n 0, 1) := by decide +kernel
theorem dX4_survey_86 : decode M_X4_survey.2.1 86 = .ok (.getfield 41, 3) := by decide +kernel
theorem dX4_survey_89 : decode M_X4_survey.2.1 89 = .ok (.iload 4, 2) := by decide +kernel
theorem dX4_survey_91 : decode M_X4_survey.2.1 91 = .ok (.iload_n 2, 1) := by decide +kernel
theorem dX4_survey_92 : decode M_X4_survey.2.1 92 = .ok (.invokevirtual 91, 3) := by decide +kernel
theorem dX4_survey_95 : decode M_X4_survey.2.1 95 = .ok (.aload_n 0, 1) := by decide +kernel
theorem dX4_survey_96 : decode M_X4_survey.2.1 96 = .ok (.aload_n 0, 1) := by decide +kernel
theorem dX4_survey_97 : decode M_X4_survey.2.1 97 = .ok (.getfield 38, 3) := by decide +kernel
theorem dX4_survey_100 : decode M_X4_survey.2.1 100 = .ok (.invokevirtual 95, 3) := by decide +kernel
theorem dX4_survey_103 : decode M_X4_survey.2.1 103 = .ok (.aload_n 0, 1) := by decide +kernel
theorem dX4_survey_104 : decode M_X4_survey.2.1 104 = .ok (.dup, 1) := by decide +kernel
theorem dX4_survey_105 : decode M_X4_survey.2.1 105 = .ok (.getfield 38, 3) := by decide +kernel
theorem dX4_survey_108 : decode M_X4_survey.2.1 108 = .ok (.iconst 1, 1) := by decide +kernel
theorem dX4_survey_109 : decode M_X4_survey.2.1 109 = .ok (.iadd, 1) := by decide +kernel
theorem dX4_survey_110 : decode M_X4_survey.2.1 110 = .ok (.putfield 38, 3) := by decide +kernel
theorem dX4_survey_113 : decode M_X4_survey.2.1 113 = .ok (.iinc 4 1, 3) := by decide +kernel
theorem dX4_survey_116 : decode M_X4_survey.2.1 116 = .ok (.goto (-78), 3) := by decide +kernel
theorem dX4_survey_119 : decode M_X4_survey.2.1 119 = .ok (.return_, 1) := by decide +kernel
def L_X4_survey_38 (X : ZX) (d n : Nat) (P : Option Value → ZSto → Prop) (x1 : Int) (x2 : Int) (x3 : Int) (x4 : Int) (σ : ZSto) : Prop := R32 x1 → R32 x2 → R32 x3 → R32 x4 → ZOk n σ → Zn X M_X4_survey d n P 38 [some (.ref (zB X + 53)), some (iV x1), some (iV x2), some (iV x3), some (iV x4)] [] σ
theorem w_X4_survey {X : ZX} {d n : Nat} {P : ZSto → Prop} {x1 : Int} {σ : ZSto} (hn : 73 ≤ n)  (hx1 : R32 x1)
    (h : ZkV X M_X4_numberChains d n [.ref (zB X + 53), iV x1] σ (fun σ2 => (∀ y6 : Int, y6 = andI 7 (xorI (shlI 1 x1) ((-1))) → (∀ y9 : Int, y9 = gI σ2 33 10 → ZkV X M_J7_fill_53178 d n [.ref (zB X + 55), iV ((-1))] (sI σ2 53 9 0) (fun σ14 => L_X4_survey_38 X d n (zpV P) x1 y6 y9 0 σ14))))) :
    ZkV X M_X4_survey (d + 1) n [.ref (zB X + 53), iV x1] σ P := by
  refine zk_of (ls := [some (.ref (zB X + 53)), some (iV x1), none, none, none]) pl_RX4 (Nat.le_of_ble_eq_true rfl) rfl (fun k0 => ?_)
  unfold Zn
  refine r_aload_n dX4_survey_0 rfl ?_
  refine r_iload_n dX4_survey_1 rfl ?_
  refine n_callV (N := M_X4_numberChains) (As := [iV x1]) (st := []) dX4_survey_2 mk_X4_numberChains km_RX4_72 kd_X4_numberChains rfl (zlt hn rfl) sh_53 (q := (RX4, TX4, 10)) rfl rfl (zFits_rm d n n n (Nat.le_refl n)) (Nat.le_of_ble_eq_true rfl) rfl k0 h ?_
  rintro _ σ2 k3 ⟨rfl, h5⟩
  change Zm _ _ _ _ _ _ 5 _ [] _
  refine r_bipush dX4_survey_5 rfl ?_
  refine r_iconst dX4_survey_7 ?_
  refine r_iload_n dX4_survey_8 rfl ?_
  refine r_ishl dX4_survey_9 ?_
  refine r_iconst dX4_survey_10 ?_
  refine r_ixor dX4_survey_11 ?_
  refine r_iand dX4_survey_12 ?_
  refine r_name (fun y6 e7 => ?_)
  have h8 := h5 y6 e7
  refine r_istore_n dX4_survey_13 rfl rfl ?_
  refine r_aload_n dX4_survey_14 rfl ?_
  refine r_getP (a := 33) dX4_survey_15 kf_RX4_41 (zlt hn rfl) sh_53 rfl (k3.1 _ _ _ (zlt hn rfl) p_53_0) ?_
  refine r_getI dX4_survey_18 kf_RX4_75 (zlt hn rfl) sh_33 (Or.inl rfl) rfl ?_
  refine r_name (fun y9 e10 => ?_)
  have h11 := h8 y9 e10
  refine r_istore_n dX4_survey_21 rfl rfl ?_
  refine r_aload_n dX4_survey_22 rfl ?_
  refine r_iconst dX4_survey_23 ?_
  refine r_putI dX4_survey_24 kf_RX4_38 (zlt hn rfl) sh_53 rfl (Or.inl rfl) ?_
  have k12 := zok_o (i := 9) (x := 0) k3 sh_53 (r32c rfl)
  refine r_aload_n dX4_survey_27 rfl ?_
  refine r_getP (a := 55) dX4_survey_28 kf_RX4_15 (zlt hn rfl) sh_53 rfl (k12.1 _ _ _ (zlt hn rfl) p_53_2) ?_
  refine r_iconst dX4_survey_31 ?_
  refine n_callS (N := M_J7_fill_53178) (As := [.ref (zB X + 55), iV ((-1))]) (st := []) dX4_survey_32 mk_J7_fill_53178 km_RX4_78 kd_J7_fill_53178 rfl (zFits_rm d n n n (Nat.le_refl n)) (Nat.le_of_ble_eq_true rfl) rfl k12 h11 ?_
  rintro _ σ14 k15 ⟨rfl, h17⟩
  change Zm _ _ _ _ _ _ 35 _ [] _
  refine r_iconst dX4_survey_35 ?_
  refine r_istore dX4_survey_36 rfl rfl ?_
  exact r_mask [true, true, true, true, true] rfl (h17 hx1 (by rw [e7]; exact (r32_and _ _)) (by rw [e10]; exact (k3.2.1 _ _)) (r32c rfl) k15)
theorem b_X4_survey_38 {X : ZX} {d n : Nat} {P : ZSto → Prop} {x1 : Int} {x2 : Int} {x3 : Int} {x4 : Int} {σ : ZSto} (hn : 73 ≤ n) 
    (h : (gI σ 33 8 ≤ x4 → P σ) ∧ (¬ (gI σ 33 8 ≤ x4) → (64 ≤ gI σ 53 9 → P σ) ∧ (¬ (64 ≤ gI σ 53 9) → ZkI X M_X0_contentOf d n [.ref (zB X + 33), iV x4] σ (fun v9 σ10 => (v9 = x1 → R32 (x4 + 1) ∧ L_X4_survey_38 X d n (zpV P) x1 x2 x3 (x4 + 1) σ10) ∧ (¬ (v9 = x1) → ZkZ X M_X0_gatheredSince d n [.ref (zB X + 33), iV x4, iV x3] σ10 (fun v20 σ21 => (¬ v20 = 0 → R32 (x4 + 1) ∧ L_X4_survey_38 X d n (zpV P) x1 x2 x3 (x4 + 1) σ21) ∧ (v20 = 0 → ZkV X M_X0_gather d n [.ref (zB X + 33), iV x4, iV x2] σ21 (fun σ32 => ZkV X M_X4_measureRegion d n [.ref (zB X + 53), iV (gI σ32 53 9)] σ32 (fun σ37 => R32 ((gI σ37 53 9) + 1) ∧ R32 (x4 + 1) ∧ L_X4_survey_38 X d n (zpV P) x1 x2 x3 (x4 + 1) (sI σ37 53 9 ((gI σ37 53 9) + 1))))))))))) :
    L_X4_survey_38 X d n (zpV P) x1 x2 x3 x4 σ := by
  intro hx1 hx2 hx3 hx4 k0
  unfold Zn
  refine r_iload dX4_survey_38 rfl ?_
  refine r_aload_n dX4_survey_40 rfl ?_
  refine r_getP (a := 33) dX4_survey_41 kf_RX4_41 (zlt hn rfl) sh_53 rfl (k0.1 _ _ _ (zlt hn rfl) p_53_0) ?_
  refine r_getI dX4_survey_44 kf_RX4_84 (zlt hn rfl) sh_33 (Or.inl rfl) rfl ?_
  refine r_icmp_ge (t := 119) dX4_survey_47 rfl hx4 (k0.2.1 _ _) (fun c1 => ?_) (fun c2 => ?_)
  · have h3 := h.1 c1
    exact r_return dX4_survey_119 rfl ⟨k0, rfl, h3⟩
  · have h4 := h.2 c2
    refine r_aload_n dX4_survey_50 rfl ?_
    refine r_getI dX4_survey_51 kf_RX4_38 (zlt hn rfl) sh_53 (Or.inl rfl) rfl ?_
    refine r_bipush dX4_survey_54 rfl ?_
    refine r_icmp_ge (t := 119) dX4_survey_56 rfl (k0.2.1 _ _) (r32c rfl) (fun c5 => ?_) (fun c6 => ?_)
    · have h7 := h4.1 c5
      exact r_return dX4_survey_119 rfl ⟨k0, rfl, h7⟩
    · have h8 := h4.2 c6
      refine r_aload_n dX4_survey_59 rfl ?_
      refine r_getP (a := 33) dX4_survey_60 kf_RX4_41 (zlt hn rfl) sh_53 rfl (k0.1 _ _ _ (zlt hn rfl) p_53_0) ?_
      refine r_iload dX4_survey_63 rfl ?_
      refine n_callV (N := M_X0_contentOf) (As := [iV x4]) (st := []) dX4_survey_65 mk_X0_contentOf km_RX4_64 kd_X0_contentOf rfl (zlt hn rfl) sh_33 (q := (RX0, TX0, 13)) rfl rfl (zFits_rm d n n n (Nat.le_refl n)) (Nat.le_of_ble_eq_true rfl) rfl k0 h8 ?_
      rintro _ σ10 k11 ⟨v9, rfl, h12, h13⟩
      change Zm _ _ _ _ _ _ 68 _ [iV v9] _
      refine r_iload_n dX4_survey_68 rfl ?_
      refine r_icmp_eq (t := 113) dX4_survey_69 rfl h12 hx1 (fun c14 => ?_) (fun c15 => ?_)
      · have h16 := h13.1 c14
        refine r_iinc dX4_survey_113 rfl rfl rfl ?_
        refine r_goto (t := 38) dX4_survey_116 rfl ?_
        obtain ⟨h17, h18⟩ := h16
        exact r_mask [true, true, true, true, true] rfl (h18 hx1 hx2 hx3 h17 k11)
      · have h19 := h13.2 c15
        refine r_aload_n dX4_survey_72 rfl ?_
        refine r_getP (a := 33) dX4_survey_73 kf_RX4_41 (zlt hn rfl) sh_53 rfl (k11.1 _ _ _ (zlt hn rfl) p_53_0) ?_
        refine r_iload dX4_survey_76 rfl ?_
        refine r_iload_n dX4_survey_78 rfl ?_
        refine n_callV (N := M_X0_gatheredSince) (As := [iV x4, iV x3]) (st := []) dX4_survey_79 mk_X0_gatheredSince km_RX4_87 kd_X0_gatheredSince rfl (zlt hn rfl) sh_33 (q := (RX0, TX0, 13)) rfl rfl (zFits_rm d n n n (Nat.le_refl n)) (Nat.le_of_ble_eq_true rfl) rfl k11 h19 ?_
        rintro _ σ21 k22 ⟨v20, rfl, h23, h24⟩
        change Zm _ _ _ _ _ _ 82 _ [iV v20] _
        refine r_if_ne (t := 113) dX4_survey_82 rfl (r32_z h23)  (fun c25 => ?_) (fun c26 => ?_)
        · have h27 := h24.1 c25
          refine r_iinc dX4_survey_113 rfl rfl rfl ?_
          refine r_goto (t := 38) dX4_survey_116 rfl ?_
          obtain ⟨h28, h29⟩ := h27
          exact r_mask [true, true, true, true, true] rfl (h29 hx1 hx2 hx3 h28 k22)
        · have h30 := h24.2 c26
          refine r_aload_n dX4_survey_85 rfl ?_
          refine r_getP (a := 33) dX4_survey_86 kf_RX4_41 (zlt hn rfl) sh_53 rfl (k22.1 _ _ _ (zlt hn rfl) p_53_0) ?_
          refine r_iload dX4_survey_89 rfl ?_
          refine r_iload_n dX4_survey_91 rfl ?_
          refine n_callV (N := M_X0_gather) (As := [iV x4, iV x2]) (st := []) dX4_survey_92 mk_X0_gather km_RX4_91 kd_X0_gather rfl (zlt hn rfl) sh_33 (q := (RX0, TX0, 13)) rfl rfl (zFits_rm d n n n (Nat.le_refl n)) (Nat.le_of_ble_eq_true rfl) rfl k22 h30 ?_
          rintro _ σ32 k33 ⟨rfl, h35⟩
          change Zm _ _ _ _ _ _ 95 _ [] _
          refine r_aload_n dX4_survey_95 rfl ?_
          refine r_aload_n dX4_survey_96 rfl ?_
          refine r_getI dX4_survey_97 kf_RX4_38 (zlt hn rfl) sh_53 (Or.inl rfl) rfl ?_
          refine n_callV (N := M_X4_measureRegion) (As := [iV (gI σ32 53 9)]) (st := []) dX4_survey_100 mk_X4_measureRegion km_RX4_95 kd_X4_measureRegion rfl (zlt hn rfl) sh_53 (q := (RX4, TX4, 10)) rfl rfl (zFits_rm d n n n (Nat.le_refl n)) (Nat.le_of_ble_eq_true rfl) rfl k33 h35 ?_
          rintro _ σ37 k38 ⟨rfl, h40⟩
          change Zm _ _ _ _ _ _ 103 _ [] _
          refine r_aload_n dX4_survey_103 rfl ?_
          refine r_dup dX4_survey_104 rfl ?_
          refine r_getI dX4_survey_105 kf_RX4_38 (zlt hn rfl) sh_53 (Or.inl rfl) rfl ?_
          refine r_iconst dX4_survey_108 ?_
          refine r_iadd dX4_survey_109 ?_
          obtain ⟨h41, h42⟩ := h40
          refine r_putI dX4_survey_110 kf_RX4_38 (zlt hn rfl) sh_53 rfl (Or.inl rfl) ?_
          have k43 := zok_o (i := 9) (x := (gI σ37 53 9) + 1) k38 sh_53 h41
          refine r_iinc dX4_survey_113 rfl rfl rfl ?_
          refine r_goto (t := 38) dX4_survey_116 rfl ?_
          obtain ⟨h44, h45⟩ := h42
          exact r_mask [true, true, true, true, true] rfl (h45 hx1 hx2 hx3 h44 k43)
/-! StoneRoom$Life.numberChains -/
theorem dX4_numberChains_0 : decode M_X4_numberChains.2.1 0 = .ok (.aload_n 0, 1) := by decide +kernel
theorem dX4_numberChains_1 : decode M_X4_numberChains.2.1 1 = .ok (.getfield 41, 3) := by decide +kernel
theorem dX4_numberChains_4 : decode M_X4_numberChains.2.1 4 = .ok (.getfield 75, 3) := by decide +kernel
theorem dX4_numberChains_7 : decode M_X4_numberChains.2.1 7 = .ok (.istore_n 2, 1) := by decide +kernel
theorem dX4_numberChains_8 : decode M_X4_numberChains.2.1 8 = .ok (.aload_n 0, 1) := by decide +kernel
theorem dX4_numberChains_9 : decode M_X4_numberChains.2.1 9 = .ok (.iconst 0, 1) := by decide +kernel
theorem dX4_numberChains_10 : decode M_X4_numberChains.2.1 10 = .ok (.putfield 34, 3) := by decide +kernel
theorem dX4_numberChains_13 : decode M_X4_numberChains.2.1 13 = .ok (.aload_n 0, 1) := by decide +kernel
theorem dX4_numberChains_14 : decode M_X4_numberChains.2.1 14 = .ok (.getfield 9, 3) := by decide +kernel
theorem dX4_numberChains_17 : decode M_X4_numberChains.2.1 17 = .ok (.iconst (-1), 1) := by decide +kernel
theorem dX4_numberChains_18 : decode M_X4_numberChains.2.1 18 = .ok (.invokestatic 78, 3) := by decide +kernel
theorem dX4_numberChains_21 : decode M_X4_numberChains.2.1 21 = .ok (.iconst 0, 1) := by decide +kernel
theorem dX4_numberChains_22 : decode M_X4_numberChains.2.1 22 = .ok (.istore_n 3, 1) := by decide +kernel
theorem dX4_numberChains_23 : decode M_X4_numberChains.2.1 23 = .ok (.iload_n 3, 1) := by decide +kernel
theorem dX4_numberChains_24 : decode M_X4_numberChains.2.1 24 = .ok (.aload_n 0, 1) := by decide +kernel
theorem dX4_numberChains_25 : decode M_X4_numberChains.2.1 25 = .ok (.getfield 41, 3) := by decide +kernel
theorem dX4_numberChains_28 : decode M_X4_numberChains.2.1 28 = .ok (.getfield 84, 3) := by decide +kernel
theorem dX4_numberChains_31 : decode M_X4_numberChains.2.1 31 = .ok (.if_icmp .ge 107, 3) := by decide +kernel
theorem dX4_numberChains_34 : decode M_X4_numberChains.2.1 34 = .ok (.aload_n 0, 1) := by decide +kernel
theorem dX4_numberChains_35 : decode M_X4_numberChains.2.1 35 = .ok (.getfield 34, 3) := by decide +kernel
theorem dX4_numberChains_38 : decode M_X4_numberChains.2.1 38 = .ok (.bipush 64, 2) := by decide +kernel
theorem dX4_numberChains_40 : decode M_X4_numberChains.2.1 40 = .ok (.if_icmp .ge 98, 3) := by decide +kernel
theorem dX4_numberChains_43 : decode M_X4_numberChains.2.1 43 = .ok (.aload_n 0, 1) := by decide +kernel
theorem dX4_numberChains_44 : decode M_X4_numberChains.2.1 44 = .ok (.getfield 41, 3) := by decide +kernel
theorem dX4_numberChains_47 : decode M_X4_numberChains.2.1 47 = .ok (.iload_n 3, 1) := by decide +kernel
theorem dX4_numberChains_48 : decode M_X4_numberChains.2.1 48 = .ok (.invokevirtual 64, 3) := by decide +kernel
theorem dX4_numberChains_51 : decode M_X4_numberChains.2.1 51 = .ok (.iload_n 1, 1) := by decide +kernel
theorem dX4_numberChains_52 : decode M_X4_numberChains.2.1 52 = .ok (.if_icmp .ne 80, 3) := by decide +kernel
theorem dX4_numberChains_55 : decode M_X4_numberChains.2.1 55 = .ok (.aload_n 0, 1) := by decide +kernel
theorem dX4_numberChains_56 : decode M_X4_numberChains.2.1 56 = .ok (.getfield 41, 3) := by decide +kernel
theorem dX4_numberChains_59 : decode M_X4_numberChains.2.1 59 = .ok (.iload_n 3, 1) := by decide +kernel
theorem dX4_numberChains_60 : decode M_X4_numberChains.2.1 60 = .ok (.iload_n 2, 1) := by decide +kernel
theorem dX4_numberChains_61 : decode M_X4_numberChains.2.1 61 = .ok (.invokevirtual 87, 3) := by decide +kernel
theorem dX4_numberChains_64 : decode M_X4_numberChains.2.1 64 = .ok (.ifCond .ne 68, 3) := by decide +kernel
theorem dX4_numberChains_67 : decode M_X4_numberChains.2.1 67 = .ok (.aload_n 0, 1) := by decide +kernel
theorem dX4_numberChains_68 : decode M_X4_numberChains.2.1 68 = .ok (.getfield 41, 3) := by decide +kernel
theorem dX4_numberChains_71 : decode M_X4_numberChains.2.1 71 = .ok (.iload_n 3, 1) := by decide +kernel
theorem dX4_numberChains_72 : decode M_X4_numberChains.2.1 72 = .ok (.invokevirtual 98, 3) := by decide +kernel
theorem dX4_numberChains_75 : decode M_X4_numberChains.2.1 75 = .ok (.iconst 0, 1) := by decide +kernel
theorem dX4_numberChains_76 : decode M_X4_numberChains.2.1 76 = .ok (.istore 4, 2) := by decide +kernel
theorem dX4_numberChains_78 : decode M_X4_numberChains.2.1 78 = .ok (.iload 4, 2) := by decide +kernel
theorem dX4_numberChains_80 : decode M_X4_numberChains.2.1 80 = .ok (.aload_n 0, 1) := by decide +kernel
theorem dX4_numberChains_81 : decode M_X4_numberChains.2.1 81 = .ok (.getfield 41, 3) := by decide +kernel
theorem dX4_numberChains_84 : decode M_X4_numberChains.2.1 84 = .ok (.getfield 101, 3) := by decide +kernel
theorem dX4_numberChains_87 : decode M_X4_numberChains.2.1 87 = .ok (.if_icmp .ge 35, 3) := by decide +kernel
theorem dX4_numberChains_90 : decode M_X4_numberChains.2.1 90 = .ok (.iload 4, 2) := by decide +kernel
theorem dX4_numberChains_92 : decode M_X4_numberChains.2.1 92 = .ok (.bipush 81, 2) := by decide +kernel
theorem dX4_numberChains_94 : decode M_X4_numberChains.2.1 94 = .ok (.if_icmp .ge 28, 3) := by decide +kernel
theorem dX4_numberChains_97 : decode M_X4_numberChains.2.1 97 = .ok (.aload_n 0, 1) := by decide +kernel
theorem dX4_numberChains_98 : decode M_X4_numberChains.2.1 98 = .ok (.getfield 9, 3) := by decide +kernel
theorem dX4_numberChains_101 : decode M_X4_numberChains.2.1 101 = .ok (.aload_n 0, 1) := by decide +kernel
theorem dX4_numberChains_102 : decode M_X4_numberChains.2.1 102 = .ok (.getfield 41, 3) := by decide +kernel
theorem dX4_numberChains_105 : decode M_X4_numberChains.2.1 105 = .ok (.getfield 104, 3) := by decide +kernel
theorem dX4_numberChains_108 : decode M_X4_numberChains.2.1 108 = .ok (.iload 4, 2) := by decide +kernel
theorem dX4_numberChains_110 : decode M_X4_numberChains.2.1 110 = .ok (.iaload, 1) := by decide +kernel
theorem dX4_numberChains_111 : decode M_X4_numberChains.2.1 111 = .ok (.aload_n 0, 1) := by decide +kernel
theorem dX4_numberChains_112 : decode M_X4_numberChains.2.1 112 = .ok (.getfield 34, 3) := by decide +kernel
theorem dX4_numberChains_115 : decode M_X4_numberChains.2.1 115 = .ok (.iastore, 1) := by decide +kernel
theorem dX4_numberChains_116 : decode M_X4_numberChains.2.1 116 = .ok (.iinc 4 1, 3) := by decide +kernel
theorem dX4_numberChains_119 : decode M_X4_numberChains.2.1 119 = .ok (.goto (-41), 3) := by decide +kernel
theorem dX4_numberChains_122 : decode M_X4_numberChains.2.1 122 = .ok (.aload_n 0, 1) := by decide +kernel
theorem dX4_numberChains_123 : decode M_X4_numberChains.2.1 123 = .ok (.dup, 1) := by decide +kernel
theorem dX4_numberChains_124 : decode M_X4_numberChains.2.1 124 = .ok (.getfield 34, 3) := by decide +kernel
theorem dX4_numberChains_127 : decode M_X4_numberChains.2.1 127 = .ok (.iconst 1, 1) := by decide +kernel
theorem dX4_numberChains_128 : decode M_X4_numberChains.2.1 128 = .ok (.iadd, 1) := by decide +kernel
theorem dX4_numberChains_129 : decode M_X4_numberChains.2.1 129 = .ok (.putfield 34, 3) := by decide +kernel
theorem dX4_numberChains_132 : decode M_X4_numberChains.2.1 132 = .ok (.iinc 3 1, 3) := by decide +kernel
theorem dX4_numberChains_135 : decode M_X4_numberChains.2.1 135 = .ok (.goto (-112), 3) := by decide +kernel
theorem dX4_numberChains_138 : decode M_X4_numberChains.2.1 138 = .ok (.return_, 1) := by decide +kernel
def L_X4_numberChains_23 (X : ZX) (d n : Nat) (P : Option Value → ZSto → Prop) (x1 : Int) (x2 : Int) (x3 : Int) (σ : ZSto) : Prop := R32 x1 → R32 x2 → R32 x3 → ZOk n σ → Zn X M_X4_numberChains d n P 23 [some (.ref (zB X + 53)), some (iV x1), some (iV x2), some (iV x3), none] [] σ
def L_X4_numberChains_78 (X : ZX) (d n : Nat) (P : Option Value → ZSto → Prop) (x1 : Int) (x2 : Int) (x3 : Int) (x4 : Int) (σ : ZSto) : Prop := R32 x1 → R32 x2 → R32 x3 → R32 x4 → ZOk n σ → Zn X M_X4_numberChains d n P 78 [some (.ref (zB X + 53)), some (iV x1), some (iV x2), some (iV x3), some (iV x4)] [] σ
theorem w_X4_numberChains {X : ZX} {d n : Nat} {P : ZSto → Prop} {x1 : Int} {σ : ZSto} (hn : 73 ≤ n)  (hx1 : R32 x1)
    (h : (∀ y1 : Int, y1 = gI σ 33 10 → ZkV X M_J7_fill_53178 d n [.ref (zB X + 54), iV ((-1))] (sI σ 53 8 0) (fun σ6 => L_X4_numberChains_23 X d n (zpV P) x1 y1 0 σ6))) :
    ZkV X M_X4_numberChains (d + 1) n [.ref (zB X + 53), iV x1] σ P := by
  refine zk_of (ls := [some (.ref (zB X + 53)), some (iV x1), none, none, none]) pl_RX4 (Nat.le_of_ble_eq_true rfl) rfl (fun k0 => ?_)
  unfold Zn
  refine r_aload_n dX4_numberChains_0 rfl ?_
  refine r_getP (a := 33) dX4_numberChains_1 kf_RX4_41 (zlt hn rfl) sh_53 rfl (k0.1 _ _ _ (zlt hn rfl) p_53_0) ?_
  refine r_getI dX4_numberChains_4 kf_RX4_75 (zlt hn rfl) sh_33 (Or.inl rfl) rfl ?_
  refine r_name (fun y1 e2 => ?_)
  have h3 := h y1 e2
  refine r_istore_n dX4_numberChains_7 rfl rfl ?_
  refine r_aload_n dX4_numberChains_8 rfl ?_
  refine r_iconst dX4_numberChains_9 ?_
  refine r_putI dX4_numberChains_10 kf_RX4_34 (zlt hn rfl) sh_53 rfl (Or.inl rfl) ?_
  have k4 := zok_o (i := 8) (x := 0) k0 sh_53 (r32c rfl)
  refine r_aload_n dX4_numberChains_13 rfl ?_
  refine r_getP (a := 54) dX4_numberChains_14 kf_RX4_9 (zlt hn rfl) sh_53 rfl (k4.1 _ _ _ (zlt hn rfl) p_53_1) ?_
  refine r_iconst dX4_numberChains_17 ?_
  refine n_callS (N := M_J7_fill_53178) (As := [.ref (zB X + 54), iV ((-1))]) (st := []) dX4_numberChains_18 mk_J7_fill_53178 km_RX4_78 kd_J7_fill_53178 rfl (zFits_rm d n n n (Nat.le_refl n)) (Nat.le_of_ble_eq_true rfl) rfl k4 h3 ?_
  rintro _ σ6 k7 ⟨rfl, h9⟩
  change Zm _ _ _ _ _ _ 21 _ [] _
  refine r_iconst dX4_numberChains_21 ?_
  refine r_istore_n dX4_numberChains_22 rfl rfl ?_
  exact r_mask [true, true, true, true, false] rfl (h9 hx1 (by rw [e2]; exact (k0.2.1 _ _)) (r32c rfl) k7)
theorem b_X4_numberChains_23 {X : ZX} {d n : Nat} {P : ZSto → Prop} {x1 : Int} {x2 : Int} {x3 : Int} {σ : ZSto} (hn : 73 ≤ n) 
    (h : (gI σ 33 8 ≤ x3 → P σ) ∧ (¬ (gI σ 33 8 ≤ x3) → (64 ≤ gI σ 53 8 → P σ) ∧ (¬ (64 ≤ gI σ 53 8) → ZkI X M_X0_contentOf d n [.ref (zB X + 33), iV x3] σ (fun v9 σ10 => (¬ v9 = x1 → R32 (x3 + 1) ∧ L_X4_numberChains_23 X d n (zpV P) x1 x2 (x3 + 1) σ10) ∧ (v9 = x1 → ZkZ X M_X0_gatheredSince d n [.ref (zB X + 33), iV x3, iV x2] σ10 (fun v20 σ21 => (¬ v20 = 0 → R32 (x3 + 1) ∧ L_X4_numberChains_23 X d n (zpV P) x1 x2 (x3 + 1) σ21) ∧ (v20 = 0 → ZkV X M_X0_gatherChain d n [.ref (zB X + 33), iV x3] σ21 (fun σ32 => L_X4_numberChains_78 X d n (zpV P) x1 x2 x3 0 σ32)))))))) :
    L_X4_numberChains_23 X d n (zpV P) x1 x2 x3 σ := by
  intro hx1 hx2 hx3 k0
  unfold Zn
  refine r_iload_n dX4_numberChains_23 rfl ?_
  refine r_aload_n dX4_numberChains_24 rfl ?_
  refine r_getP (a := 33) dX4_numberChains_25 kf_RX4_41 (zlt hn rfl) sh_53 rfl (k0.1 _ _ _ (zlt hn rfl) p_53_0) ?_
  refine r_getI dX4_numberChains_28 kf_RX4_84 (zlt hn rfl) sh_33 (Or.inl rfl) rfl ?_
  refine r_icmp_ge (t := 138) dX4_numberChains_31 rfl hx3 (k0.2.1 _ _) (fun c1 => ?_) (fun c2 => ?_)
  · have h3 := h.1 c1
    exact r_return dX4_numberChains_138 rfl ⟨k0, rfl, h3⟩
  · have h4 := h.2 c2
    refine r_aload_n dX4_numberChains_34 rfl ?_
    refine r_getI dX4_numberChains_35 kf_RX4_34 (zlt hn rfl) sh_53 (Or.inl rfl) rfl ?_
    refine r_bipush dX4_numberChains_38 rfl ?_
    refine r_icmp_ge (t := 138) dX4_numberChains_40 rfl (k0.2.1 _ _) (r32c rfl) (fun c5 => ?_) (fun c6 => ?_)
    · have h7 := h4.1 c5
      exact r_return dX4_numberChains_138 rfl ⟨k0, rfl, h7⟩
    · have h8 := h4.2 c6
      refine r_aload_n dX4_numberChains_43 rfl ?_
      refine r_getP (a := 33) dX4_numberChains_44 kf_RX4_41 (zlt hn rfl) sh_53 rfl (k0.1 _ _ _ (zlt hn rfl) p_53_0) ?_
      refine r_iload_n dX4_numberChains_47 rfl ?_
      refine n_callV (N := M_X0_contentOf) (As := [iV x3]) (st := []) dX4_numberChains_48 mk_X0_contentOf km_RX4_64 kd_X0_contentOf rfl (zlt hn rfl) sh_33 (q := (RX0, TX0, 13)) rfl rfl (zFits_rm d n n n (Nat.le_refl n)) (Nat.le_of_ble_eq_true rfl) rfl k0 h8 ?_
      rintro _ σ10 k11 ⟨v9, rfl, h12, h13⟩
      change Zm _ _ _ _ _ _ 51 _ [iV v9] _
      refine r_iload_n dX4_numberChains_51 rfl ?_
      refine r_icmp_ne (t := 132) dX4_numberChains_52 rfl h12 hx1 (fun c14 => ?_) (fun c15 => ?_)
      · have h16 := h13.1 c14
        refine r_iinc dX4_numberChains_132 rfl rfl rfl ?_
        refine r_goto (t := 23) dX4_numberChains_135 rfl ?_
        obtain ⟨h17, h18⟩ := h16
        exact r_mask [true, true, true, true, false] rfl (h18 hx1 hx2 h17 k11)
      · have h19 := h13.2 c15
        refine r_aload_n dX4_numberChains_55 rfl ?_
        refine r_getP (a := 33) dX4_numberChains_56 kf_RX4_41 (zlt hn rfl) sh_53 rfl (k11.1 _ _ _ (zlt hn rfl) p_53_0) ?_
        refine r_iload_n dX4_numberChains_59 rfl ?_
        refine r_iload_n dX4_numberChains_60 rfl ?_
        refine n_callV (N := M_X0_gatheredSince) (As := [iV x3, iV x2]) (st := []) dX4_numberChains_61 mk_X0_gatheredSince km_RX4_87 kd_X0_gatheredSince rfl (zlt hn rfl) sh_33 (q := (RX0, TX0, 13)) rfl rfl (zFits_rm d n n n (Nat.le_refl n)) (Nat.le_of_ble_eq_true rfl) rfl k11 h19 ?_
        rintro _ σ21 k22 ⟨v20, rfl, h23, h24⟩
        change Zm _ _ _ _ _ _ 64 _ [iV v20] _
        refine r_if_ne (t := 132) dX4_numberChains_64 rfl (r32_z h23)  (fun c25 => ?_) (fun c26 => ?_)
        · have h27 := h24.1 c25
          refine r_iinc dX4_numberChains_132 rfl rfl rfl ?_
          refine r_goto (t := 23) dX4_numberChains_135 rfl ?_
          obtain ⟨h28, h29⟩ := h27
          exact r_mask [true, true, true, true, false] rfl (h29 hx1 hx2 h28 k22)
        · have h30 := h24.2 c26
          refine r_aload_n dX4_numberChains_67 rfl ?_
          refine r_getP (a := 33) dX4_numberChains_68 kf_RX4_41 (zlt hn rfl) sh_53 rfl (k22.1 _ _ _ (zlt hn rfl) p_53_0) ?_
          refine r_iload_n dX4_numberChains_71 rfl ?_
          refine n_callV (N := M_X0_gatherChain) (As := [iV x3]) (st := []) dX4_numberChains_72 mk_X0_gatherChain km_RX4_98 kd_X0_gatherChain rfl (zlt hn rfl) sh_33 (q := (RX0, TX0, 13)) rfl rfl (zFits_rm d n n n (Nat.le_refl n)) (Nat.le_of_ble_eq_true rfl) rfl k22 h30 ?_
          rintro _ σ32 k33 ⟨rfl, h35⟩
          change Zm _ _ _ _ _ _ 75 _ [] _
          refine r_iconst dX4_numberChains_75 ?_
          refine r_istore dX4_numberChains_76 rfl rfl ?_
          exact r_mask [true, true, true, true, true] rfl (h35 hx1 hx2 hx3 (r32c rfl) k33)
theorem b_X4_numberChains_78 {X : ZX} {d n : Nat} {P : ZSto → Prop} {x1 : Int} {x2 : Int} {x3 : Int} {x4 : Int} {σ : ZSto} (hn : 73 ≤ n) 
    (h : (gI σ 33 9 ≤ x4 → R32 ((gI σ 53 8) + 1) ∧ R32 (x3 + 1) ∧ L_X4_numberChains_23 X d n (zpV P) x1 x2 (x3 + 1) (sI σ 53 8 ((gI σ 53 8) + 1))) ∧ (¬ (gI σ 33 9 ≤ x4) → (81 ≤ x4 → R32 ((gI σ 53 8) + 1) ∧ R32 (x3 + 1) ∧ L_X4_numberChains_23 X d n (zpV P) x1 x2 (x3 + 1) (sI σ 53 8 ((gI σ 53 8) + 1))) ∧ (¬ (81 ≤ x4) → (0 ≤ x4 ∧ x4 < 81) ∧ (0 ≤ gI σ 36 x4.toNat ∧ gI σ 36 x4.toNat < 81) ∧ R32 (x4 + 1) ∧ L_X4_numberChains_78 X d n (zpV P) x1 x2 x3 (x4 + 1) (sI σ 54 ((gI σ 36 x4.toNat).toNat) (gI σ 53 8))))) :
    L_X4_numberChains_78 X d n (zpV P) x1 x2 x3 x4 σ := by
  intro hx1 hx2 hx3 hx4 k0
  unfold Zn
  refine r_iload dX4_numberChains_78 rfl ?_
  refine r_aload_n dX4_numberChains_80 rfl ?_
  refine r_getP (a := 33) dX4_numberChains_81 kf_RX4_41 (zlt hn rfl) sh_53 rfl (k0.1 _ _ _ (zlt hn rfl) p_53_0) ?_
  refine r_getI dX4_numberChains_84 kf_RX4_101 (zlt hn rfl) sh_33 (Or.inl rfl) rfl ?_
  refine r_icmp_ge (t := 122) dX4_numberChains_87 rfl hx4 (k0.2.1 _ _) (fun c1 => ?_) (fun c2 => ?_)
  · have h3 := h.1 c1
    refine r_aload_n dX4_numberChains_122 rfl ?_
    refine r_dup dX4_numberChains_123 rfl ?_
    refine r_getI dX4_numberChains_124 kf_RX4_34 (zlt hn rfl) sh_53 (Or.inl rfl) rfl ?_
    refine r_iconst dX4_numberChains_127 ?_
    refine r_iadd dX4_numberChains_128 ?_
    obtain ⟨h4, h5⟩ := h3
    refine r_putI dX4_numberChains_129 kf_RX4_34 (zlt hn rfl) sh_53 rfl (Or.inl rfl) ?_
    have k6 := zok_o (i := 8) (x := (gI σ 53 8) + 1) k0 sh_53 h4
    refine r_iinc dX4_numberChains_132 rfl rfl rfl ?_
    refine r_goto (t := 23) dX4_numberChains_135 rfl ?_
    obtain ⟨h7, h8⟩ := h5
    exact r_mask [true, true, true, true, false] rfl (h8 hx1 hx2 h7 k6)
  · have h9 := h.2 c2
    refine r_iload dX4_numberChains_90 rfl ?_
    refine r_bipush dX4_numberChains_92 rfl ?_
    refine r_icmp_ge (t := 122) dX4_numberChains_94 rfl hx4 (r32c rfl) (fun c10 => ?_) (fun c11 => ?_)
    · have h12 := h9.1 c10
      refine r_aload_n dX4_numberChains_122 rfl ?_
      refine r_dup dX4_numberChains_123 rfl ?_
      refine r_getI dX4_numberChains_124 kf_RX4_34 (zlt hn rfl) sh_53 (Or.inl rfl) rfl ?_
      refine r_iconst dX4_numberChains_127 ?_
      refine r_iadd dX4_numberChains_128 ?_
      obtain ⟨h13, h14⟩ := h12
      refine r_putI dX4_numberChains_129 kf_RX4_34 (zlt hn rfl) sh_53 rfl (Or.inl rfl) ?_
      have k15 := zok_o (i := 8) (x := (gI σ 53 8) + 1) k0 sh_53 h13
      refine r_iinc dX4_numberChains_132 rfl rfl rfl ?_
      refine r_goto (t := 23) dX4_numberChains_135 rfl ?_
      obtain ⟨h16, h17⟩ := h14
      exact r_mask [true, true, true, true, false] rfl (h17 hx1 hx2 h16 k15)
    · have h18 := h9.2 c11
      refine r_aload_n dX4_numberChains_97 rfl ?_
      refine r_getP (a := 54) dX4_numberChains_98 kf_RX4_9 (zlt hn rfl) sh_53 rfl (k0.1 _ _ _ (zlt hn rfl) p_53_1) ?_
      refine r_aload_n dX4_numberChains_101 rfl ?_
      refine r_getP (a := 33) dX4_numberChains_102 kf_RX4_41 (zlt hn rfl) sh_53 rfl (k0.1 _ _ _ (zlt hn rfl) p_53_0) ?_
      refine r_getP (a := 36) dX4_numberChains_105 kf_RX4_104 (zlt hn rfl) sh_33 rfl (k0.1 _ _ _ (zlt hn rfl) (zB_p2 (Or.inl rfl))) ?_
      refine r_iload dX4_numberChains_108 rfl ?_
      obtain ⟨h19, h20⟩ := h18
      refine r_ialoadE dX4_numberChains_110 (zlt hn rfl) sh_36 h19.1 h19.2 rfl ?_
      refine r_aload_n dX4_numberChains_111 rfl ?_
      refine r_getI dX4_numberChains_112 kf_RX4_34 (zlt hn rfl) sh_53 (Or.inl rfl) rfl ?_
      obtain ⟨h21, h22⟩ := h20
      refine r_iastore dX4_numberChains_115 (zlt hn rfl) sh_54 h21.1 h21.2 ?_
      have k23 := zok_i (i := (gI σ 36 x4.toNat).toNat) (x := gI σ 53 8) k0 sh_54 (k0.2.1 _ _)
      refine r_iinc dX4_numberChains_116 rfl rfl rfl ?_
      refine r_goto (t := 78) dX4_numberChains_119 rfl ?_
      obtain ⟨h24, h25⟩ := h22
      exact r_mask [true, true, true, true, true] rfl (h25 hx1 hx2 hx3 h24 k23)
/-! StoneRoom$Life.measureRegion -/
theorem dX4_measureRegion_0 : decode M_X4_measureRegion.2.1 0 = .ok (.aload_n 0, 1) := by decide +kernel
theorem dX4_measureRegion_1 : decode M_X4_measureRegion.2.1 1 = .ok (.getfield 18, 3) := by decide +kernel
theorem dX4_measureRegion_4 : decode M_X4_measureRegion.2.1 4 = .ok (.iload_n 1, 1) := by decide +kernel
theorem dX4_measureRegion_5 : decode M_X4_measureRegion.2.1 5 = .ok (.aload_n 0, 1) := by decide +kernel
theorem dX4_measureRegion_6 : decode M_X4_measureRegion.2.1 6 = .ok (.getfield 41, 3) := by decide +kernel
theorem dX4_measureRegion_9 : decode M_X4_measureRegion.2.1 9 = .ok (.invokevirtual 107, 3) := by decide +kernel
theorem dX4_measureRegion_12 : decode M_X4_measureRegion.2.1 12 = .ok (.iastore, 1) := by decide +kernel
theorem dX4_measureRegion_13 : decode M_X4_measureRegion.2.1 13 = .ok (.aload_n 0, 1) := by decide +kernel
theorem dX4_measureRegion_14 : decode M_X4_measureRegion.2.1 14 = .ok (.getfield 21, 3) := by decide +kernel
theorem dX4_measureRegion_17 : decode M_X4_measureRegion.2.1 17 = .ok (.iload_n 1, 1) := by decide +kernel
theorem dX4_measureRegion_18 : decode M_X4_measureRegion.2.1 18 = .ok (.aload_n 0, 1) := by decide +kernel
theorem dX4_measureRegion_19 : decode M_X4_measureRegion.2.1 19 = .ok (.getfield 41, 3) := by decide +kernel
theorem dX4_measureRegion_22 : decode M_X4_measureRegion.2.1 22 = .ok (.getfield 101, 3) := by decide +kernel
theorem dX4_measureRegion_25 : decode M_X4_measureRegion.2.1 25 = .ok (.iastore, 1) := by decide +kernel
theorem dX4_measureRegion_26 : decode M_X4_measureRegion.2.1 26 = .ok (.aload_n 0, 1) := by decide +kernel
theorem dX4_measureRegion_27 : decode M_X4_measureRegion.2.1 27 = .ok (.getfield 24, 3) := by decide +kernel
theorem dX4_measureRegion_30 : decode M_X4_measureRegion.2.1 30 = .ok (.iload_n 1, 1) := by decide +kernel
theorem dX4_measureRegion_31 : decode M_X4_measureRegion.2.1 31 = .ok (.iconst 0, 1) := by decide +kernel
theorem dX4_measureRegion_32 : decode M_X4_measureRegion.2.1 32 = .ok (.iastore, 1) := by decide +kernel
theorem dX4_measureRegion_33 : decode M_X4_measureRegion.2.1 33 = .ok (.aload_n 0, 1) := by decide +kernel
theorem dX4_measureRegion_34 : decode M_X4_measureRegion.2.1 34 = .ok (.getfield 31, 3) := by decide +kernel
theorem dX4_measureRegion_37 : decode M_X4_measureRegion.2.1 37 = .ok (.iload_n 1, 1) := by decide +kernel
theorem dX4_measureRegion_38 : decode M_X4_measureRegion.2.1 38 = .ok (.lconst 0, 1) := by decide +kernel
theorem dX4_measureRegion_39 : decode M_X4_measureRegion.2.1 39 = .ok (.lastore, 1) := by decide +kernel
theorem dX4_measureRegion_40 : decode M_X4_measureRegion.2.1 40 = .ok (.ldc2_w 111, 3) := by decide +kernel
theorem dX4_measureRegion_43 : decode M_X4_measureRegion.2.1 43 = .ok (.lstore_n 2, 1) := by decide +kernel
theorem dX4_measureRegion_44 : decode M_X4_measureRegion.2.1 44 = .ok (.iconst 0, 1) := by decide +kernel
theorem dX4_measureRegion_45 : decode M_X4_measureRegion.2.1 45 = .ok (.istore 4, 2) := by decide +kernel
theorem dX4_measureRegion_47 : decode M_X4_measureRegion.2.1 47 = .ok (.iload 4, 2) := by decide +kernel
theorem dX4_measureRegion_49 : decode M_X4_measureRegion.2.1 49 = .ok (.aload_n 0, 1) := by decide +kernel
theorem dX4_measureRegion_50 : decode M_X4_measureRegion.2.1 50 = .ok (.getfield 41, 3) := by decide +kernel
theorem dX4_measureRegion_53 : decode M_X4_measureRegion.2.1 53 = .ok (.getfield 101, 3) := by decide +kernel
theorem dX4_measureRegion_56 : decode M_X4_measureRegion.2.1 56 = .ok (.if_icmp .ge 82, 3) := by decide +kernel
theorem dX4_measureRegion_59 : decode M_X4_measureRegion.2.1 59 = .ok (.iload 4, 2) := by decide +kernel
theorem dX4_measureRegion_61 : decode M_X4_measureRegion.2.1 61 = .ok (.bipush 81, 2) := by decide +kernel
theorem dX4_measureRegion_63 : decode M_X4_measureRegion.2.1 63 = .ok (.if_icmp .ge 75, 3) := by decide +kernel
theorem dX4_measureRegion_66 : decode M_X4_measureRegion.2.1 66 = .ok (.aload_n 0, 1) := by decide +kernel
theorem dX4_measureRegion_67 : decode M_X4_measureRegion.2.1 67 = .ok (.getfield 41, 3) := by decide +kernel
theorem dX4_measureRegion_70 : decode M_X4_measureRegion.2.1 70 = .ok (.getfield 104, 3) := by decide +kernel
theorem dX4_measureRegion_73 : decode M_X4_measureRegion.2.1 73 = .ok (.iload 4, 2) := by decide +kernel
theorem dX4_measureRegion_75 : decode M_X4_measureRegion.2.1 75 = .ok (.iaload, 1) := by decide +kernel
theorem dX4_measureRegion_76 : decode M_X4_measureRegion.2.1 76 = .ok (.istore 5, 2) := by decide +kernel
theorem dX4_measureRegion_78 : decode M_X4_measureRegion.2.1 78 = .ok (.aload_n 0, 1) := by decide +kernel
theorem dX4_measureRegion_79 : decode M_X4_measureRegion.2.1 79 = .ok (.iload 5, 2) := by decide +kernel
theorem dX4_measureRegion_81 : decode M_X4_measureRegion.2.1 81 = .ok (.invokevirtual 113, 3) := by decide +kernel
theorem dX4_measureRegion_84 : decode M_X4_measureRegion.2.1 84 = .ok (.lstore 6, 2) := by decide +kernel
theorem dX4_measureRegion_86 : decode M_X4_measureRegion.2.1 86 = .ok (.aload_n 0, 1) := by decide +kernel
theorem dX4_measureRegion_87 : decode M_X4_measureRegion.2.1 87 = .ok (.getfield 15, 3) := by decide +kernel
theorem dX4_measureRegion_90 : decode M_X4_measureRegion.2.1 90 = .ok (.iload 5, 2) := by decide +kernel
theorem dX4_measureRegion_92 : decode M_X4_measureRegion.2.1 92 = .ok (.iload_n 1, 1) := by decide +kernel
theorem dX4_measureRegion_93 : decode M_X4_measureRegion.2.1 93 = .ok (.iastore, 1) := by decide +kernel
theorem dX4_measureRegion_94 : decode M_X4_measureRegion.2.1 94 = .ok (.aload_n 0, 1) := by decide +kernel
theorem dX4_measureRegion_95 : decode M_X4_measureRegion.2.1 95 = .ok (.getfield 31, 3) := by decide +kernel
theorem dX4_measureRegion_98 : decode M_X4_measureRegion.2.1 98 = .ok (.iload_n 1, 1) := by decide +kernel
theorem dX4_measureRegion_99 : decode M_X4_measureRegion.2.1 99 = .ok (.dup2, 1) := by decide +kernel
theorem dX4_measureRegion_100 : decode M_X4_measureRegion.2.1 100 = .ok (.laload, 1) := by decide +kernel
theorem dX4_measureRegion_101 : decode M_X4_measureRegion.2.1 101 = .ok (.lload 6, 2) := by decide +kernel
theorem dX4_measureRegion_103 : decode M_X4_measureRegion.2.1 103 = .ok (.lor, 1) := by decide +kernel
theorem dX4_measureRegion_104 : decode M_X4_measureRegion.2.1 104 = .ok (.lastore, 1) := by decide +kernel
theorem dX4_measureRegion_105 : decode M_X4_measureRegion.2.1 105 = .ok (.aload_n 0, 1) := by decide +kernel
theorem dX4_measureRegion_106 : decode M_X4_measureRegion.2.1 106 = .ok (.getfield 41, 3) := by decide +kernel
theorem dX4_measureRegion_109 : decode M_X4_measureRegion.2.1 109 = .ok (.iload 5, 2) := by decide +kernel
theorem dX4_measureRegion_111 : decode M_X4_measureRegion.2.1 111 = .ok (.invokevirtual 64, 3) := by decide +kernel
theorem dX4_measureRegion_114 : decode M_X4_measureRegion.2.1 114 = .ok (.ifCond .ne 18, 3) := by decide +kernel
theorem dX4_measureRegion_117 : decode M_X4_measureRegion.2.1 117 = .ok (.aload_n 0, 1) := by decide +kernel
theorem dX4_measureRegion_118 : decode M_X4_measureRegion.2.1 118 = .ok (.getfield 24, 3) := by decide +kernel
theorem dX4_measureRegion_121 : decode M_X4_measureRegion.2.1 121 = .ok (.iload_n 1, 1) := by decide +kernel
theorem dX4_measureRegion_122 : decode M_X4_measureRegion.2.1 122 = .ok (.dup2, 1) := by decide +kernel
theorem dX4_measureRegion_123 : decode M_X4_measureRegion.2.1 123 = .ok (.iaload, 1) := by decide +kernel
theorem dX4_measureRegion_124 : decode M_X4_measureRegion.2.1 124 = .ok (.iconst 1, 1) := by decide +kernel
theorem dX4_measureRegion_125 : decode M_X4_measureRegion.2.1 125 = .ok (.iadd, 1) := by decide +kernel
theorem dX4_measureRegion_126 : decode M_X4_measureRegion.2.1 126 = .ok (.iastore, 1) := by decide +kernel
theorem dX4_measureRegion_127 : decode M_X4_measureRegion.2.1 127 = .ok (.lload_n 2, 1) := by decide +kernel
theorem dX4_measureRegion_128 : decode M_X4_measureRegion.2.1 128 = .ok (.lload 6, 2) := by decide +kernel
theorem dX4_measureRegion_130 : decode M_X4_measureRegion.2.1 130 = .ok (.land, 1) := by decide +kernel
theorem dX4_measureRegion_131 : decode M_X4_measureRegion.2.1 131 = .ok (.lstore_n 2, 1) := by decide +kernel
theorem dX4_measureRegion_132 : decode M_X4_measureRegion.2.1 132 = .ok (.iinc 4 1, 3) := by decide +kernel
theorem dX4_measureRegion_135 : decode M_X4_measureRegion.2.1 135 = .ok (.goto (-88), 3) := by decide +kernel
theorem dX4_measureRegion_138 : decode M_X4_measureRegion.2.1 138 = .ok (.aload_n 0, 1) := by decide +kernel
theorem dX4_measureRegion_139 : decode M_X4_measureRegion.2.1 139 = .ok (.getfield 27, 3) := by decide +kernel
theorem dX4_measureRegion_142 : decode M_X4_measureRegion.2.1 142 = .ok (.iload_n 1, 1) := by decide +kernel
theorem dX4_measureRegion_143 : decode M_X4_measureRegion.2.1 143 = .ok (.aload_n 0, 1) := by decide +kernel
theorem dX4_measureRegion_144 : decode M_X4_measureRegion.2.1 144 = .ok (.getfield 24, 3) := by decide +kernel
theorem dX4_measureRegion_147 : decode M_X4_measureRegion.2.1 147 = .ok (.iload_n 1, 1) := by decide +kernel
theorem dX4_measureRegion_148 : decode M_X4_measureRegion.2.1 148 = .ok (.iaload, 1) := by decide +kernel
theorem dX4_measureRegion_149 : decode M_X4_measureRegion.2.1 149 = .ok (.ifCond .le 7, 3) := by decide +kernel
theorem dX4_measureRegion_152 : decode M_X4_measureRegion.2.1 152 = .ok (.lload_n 2, 1) := by decide +kernel
theorem dX4_measureRegion_153 : decode M_X4_measureRegion.2.1 153 = .ok (.goto 4, 3) := by decide +kernel
theorem dX4_measureRegion_156 : decode M_X4_measureRegion.2.1 156 = .ok (.lconst 0, 1) := by decide +kernel
theorem dX4_measureRegion_157 : decode M_X4_measureRegion.2.1 157 = .ok (.lastore, 1) := by decide +kernel
theorem dX4_measureRegion_158 : decode M_X4_measureRegion.2.1 158 = .ok (.return_, 1) := by decide +kernel
def L_X4_measureRegion_47 (X : ZX) (d n : Nat) (P : Option Value → ZSto → Prop) (x1 : Int) (l2 : Int64) (x4 : Int) (σ : ZSto) : Prop := R32 x1 → R32 x4 → ZOk n σ → Zn X M_X4_measureRegion d n P 47 [some (.ref (zB X + 53)), some (iV x1), some (.long l2), none, some (iV x4), none, none, none] [] σ
theorem w_X4_measureRegion {X : ZX} {d n : Nat} {P : ZSto → Prop} {x1 : Int} {σ : ZSto} (hn : 73 ≤ n)  (hx1 : R32 x1)
    (h : ZkI X M_X0_leastGathered d n [.ref (zB X + 33)] σ (fun v1 σ2 => (0 ≤ x1 ∧ x1 < 64) ∧ L_X4_measureRegion_47 X d n (zpV P) x1 ((-1 : Int64)) 0 (sL (sI (sI (sI σ2 56 x1.toNat v1) 57 x1.toNat (gI σ2 33 9)) 58 x1.toNat 0) 60 x1.toNat ((0 : Int64))))) :
    ZkV X M_X4_measureRegion (d + 1) n [.ref (zB X + 53), iV x1] σ P := by
  refine zk_of (ls := [some (.ref (zB X + 53)), some (iV x1), none, none, none, none, none, none]) pl_RX4 (Nat.le_of_ble_eq_true rfl) rfl (fun k0 => ?_)
  unfold Zn
  refine r_aload_n dX4_measureRegion_0 rfl ?_
  refine r_getP (a := 56) dX4_measureRegion_1 kf_RX4_18 (zlt hn rfl) sh_53 rfl (k0.1 _ _ _ (zlt hn rfl) p_53_3) ?_
  refine r_iload_n dX4_measureRegion_4 rfl ?_
  refine r_aload_n dX4_measureRegion_5 rfl ?_
  refine r_getP (a := 33) dX4_measureRegion_6 kf_RX4_41 (zlt hn rfl) sh_53 rfl (k0.1 _ _ _ (zlt hn rfl) p_53_0) ?_
  refine n_callV (N := M_X0_leastGathered) (As := []) (st := [iV x1, .ref (zB X + 56)]) dX4_measureRegion_9 mk_X0_leastGathered km_RX4_107 kd_X0_leastGathered rfl (zlt hn rfl) sh_33 (q := (RX0, TX0, 13)) rfl rfl (zFits_rm d n n n (Nat.le_refl n)) (Nat.le_of_ble_eq_true rfl) rfl k0 h ?_
  rintro _ σ2 k3 ⟨v1, rfl, h4, h5⟩
  change Zm _ _ _ _ _ _ 12 _ [iV v1, iV x1, .ref (zB X + 56)] _
  obtain ⟨h6, h7⟩ := h5
  refine r_iastore dX4_measureRegion_12 (zlt hn rfl) sh_56 h6.1 h6.2 ?_
  have k8 := zok_i (i := x1.toNat) (x := v1) k3 sh_56 h4
  refine r_aload_n dX4_measureRegion_13 rfl ?_
  refine r_getP (a := 57) dX4_measureRegion_14 kf_RX4_21 (zlt hn rfl) sh_53 rfl (k8.1 _ _ _ (zlt hn rfl) p_53_4) ?_
  refine r_iload_n dX4_measureRegion_17 rfl ?_
  refine r_aload_n dX4_measureRegion_18 rfl ?_
  refine r_getP (a := 33) dX4_measureRegion_19 kf_RX4_41 (zlt hn rfl) sh_53 rfl (k8.1 _ _ _ (zlt hn rfl) p_53_0) ?_
  refine r_getI dX4_measureRegion_22 kf_RX4_101 (zlt hn rfl) sh_33 (Or.inl rfl) (gI_c (by decide)) ?_
  refine r_iastore dX4_measureRegion_25 (zlt hn rfl) sh_57 h6.1 h6.2 ?_
  have k9 := zok_i (i := x1.toNat) (x := gI σ2 33 9) k8 sh_57 (k3.2.1 _ _)
  refine r_aload_n dX4_measureRegion_26 rfl ?_
  refine r_getP (a := 58) dX4_measureRegion_27 kf_RX4_24 (zlt hn rfl) sh_53 rfl (k9.1 _ _ _ (zlt hn rfl) p_53_5) ?_
  refine r_iload_n dX4_measureRegion_30 rfl ?_
  refine r_iconst dX4_measureRegion_31 ?_
  refine r_iastore dX4_measureRegion_32 (zlt hn rfl) sh_58 h6.1 h6.2 ?_
  have k10 := zok_i (i := x1.toNat) (x := 0) k9 sh_58 (r32c rfl)
  refine r_aload_n dX4_measureRegion_33 rfl ?_
  refine r_getP (a := 60) dX4_measureRegion_34 kf_RX4_31 (zlt hn rfl) sh_53 rfl (k10.1 _ _ _ (zlt hn rfl) p_53_7) ?_
  refine r_iload_n dX4_measureRegion_37 rfl ?_
  refine r_lconst (v := 0) dX4_measureRegion_38 rfl ?_
  refine r_lastore dX4_measureRegion_39 (zlt hn rfl) sh_60 h6.1 h6.2 ?_
  have k11 := zok_l (a := 60) (i := x1.toNat) (x := (0 : Int64)) k10
  refine r_ldc2 dX4_measureRegion_40 kc_RX4_111 ?_
  refine r_lstore_n dX4_measureRegion_43 rfl rfl ?_
  refine r_iconst dX4_measureRegion_44 ?_
  refine r_istore dX4_measureRegion_45 rfl rfl ?_
  exact r_mask [true, true, true, false, true, false, false, false] rfl (h7 hx1 (r32c rfl) k11)
theorem b_X4_measureRegion_47 {X : ZX} {d n : Nat} {P : ZSto → Prop} {x1 : Int} {l2 : Int64} {x4 : Int} {σ : ZSto} (hn : 73 ≤ n) 
    (h : (gI σ 33 9 ≤ x4 → (0 ≤ x1 ∧ x1 < 64) ∧ (gI σ 58 x1.toNat ≤ 0 → P (sL σ 59 x1.toNat ((0 : Int64)))) ∧ (¬ (gI σ 58 x1.toNat ≤ 0) → P (sL σ 59 x1.toNat l2))) ∧ (¬ (gI σ 33 9 ≤ x4) → (81 ≤ x4 → (0 ≤ x1 ∧ x1 < 64) ∧ (gI σ 58 x1.toNat ≤ 0 → P (sL σ 59 x1.toNat ((0 : Int64)))) ∧ (¬ (gI σ 58 x1.toNat ≤ 0) → P (sL σ 59 x1.toNat l2))) ∧ (¬ (81 ≤ x4) → (0 ≤ x4 ∧ x4 < 81) ∧ (∀ y27 : Int, y27 = gI σ 36 x4.toNat → ZkL X M_X4_chainsBeside d n [.ref (zB X + 53), iV y27] σ (fun v30 σ31 => (0 ≤ y27 ∧ y27 < 81) ∧ (0 ≤ x1 ∧ x1 < 64) ∧ ZkI X M_X0_contentOf d n [.ref (zB X + 33), iV y27] (sL (sI σ31 55 y27.toNat x1) 60 x1.toNat ((gL σ31 60 x1.toNat) ||| v30)) (fun v41 σ42 => (¬ v41 = 0 → R32 (x4 + 1) ∧ L_X4_measureRegion_47 X d n (zpV P) x1 l2 (x4 + 1) σ42) ∧ (v41 = 0 → R32 ((gI σ42 58 x1.toNat) + 1) ∧ R32 (x4 + 1) ∧ L_X4_measureRegion_47 X d n (zpV P) x1 (l2 &&& v30) (x4 + 1) (sI σ42 58 x1.toNat ((gI σ42 58 x1.toNat) + 1))))))))) :
    L_X4_measureRegion_47 X d n (zpV P) x1 l2 x4 σ := by
  intro hx1 hx4 k0
  unfold Zn
  refine r_iload dX4_measureRegion_47 rfl ?_
  refine r_aload_n dX4_measureRegion_49 rfl ?_
  refine r_getP (a := 33) dX4_measureRegion_50 kf_RX4_41 (zlt hn rfl) sh_53 rfl (k0.1 _ _ _ (zlt hn rfl) p_53_0) ?_
  refine r_getI dX4_measureRegion_53 kf_RX4_101 (zlt hn rfl) sh_33 (Or.inl rfl) rfl ?_
  refine r_icmp_ge (t := 138) dX4_measureRegion_56 rfl hx4 (k0.2.1 _ _) (fun c1 => ?_) (fun c2 => ?_)
  · have h3 := h.1 c1
    refine r_aload_n dX4_measureRegion_138 rfl ?_
    refine r_getP (a := 59) dX4_measureRegion_139 kf_RX4_27 (zlt hn rfl) sh_53 rfl (k0.1 _ _ _ (zlt hn rfl) p_53_6) ?_
    refine r_iload_n dX4_measureRegion_142 rfl ?_
    refine r_aload_n dX4_measureRegion_143 rfl ?_
    refine r_getP (a := 58) dX4_measureRegion_144 kf_RX4_24 (zlt hn rfl) sh_53 rfl (k0.1 _ _ _ (zlt hn rfl) p_53_5) ?_
    refine r_iload_n dX4_measureRegion_147 rfl ?_
    obtain ⟨h4, h5⟩ := h3
    refine r_ialoadE dX4_measureRegion_148 (zlt hn rfl) sh_58 h4.1 h4.2 rfl ?_
    refine r_if_le (t := 156) dX4_measureRegion_149 rfl (k0.2.1 _ _)  (fun c6 => ?_) (fun c7 => ?_)
    · have h8 := h5.1 c6
      refine r_lconst (v := 0) dX4_measureRegion_156 rfl ?_
      refine r_lastore dX4_measureRegion_157 (zlt hn rfl) sh_59 h4.1 h4.2 ?_
      have k9 := zok_l (a := 59) (i := x1.toNat) (x := (0 : Int64)) k0
      exact r_return dX4_measureRegion_158 rfl ⟨k9, rfl, h8⟩
    · have h10 := h5.2 c7
      refine r_lload_n dX4_measureRegion_152 rfl ?_
      refine r_goto (t := 157) dX4_measureRegion_153 rfl ?_
      refine r_lastore dX4_measureRegion_157 (zlt hn rfl) sh_59 h4.1 h4.2 ?_
      have k11 := zok_l (a := 59) (i := x1.toNat) (x := l2) k0
      exact r_return dX4_measureRegion_158 rfl ⟨k11, rfl, h10⟩
  · have h12 := h.2 c2
    refine r_iload dX4_measureRegion_59 rfl ?_
    refine r_bipush dX4_measureRegion_61 rfl ?_
    refine r_icmp_ge (t := 138) dX4_measureRegion_63 rfl hx4 (r32c rfl) (fun c13 => ?_) (fun c14 => ?_)
    · have h15 := h12.1 c13
      refine r_aload_n dX4_measureRegion_138 rfl ?_
      refine r_getP (a := 59) dX4_measureRegion_139 kf_RX4_27 (zlt hn rfl) sh_53 rfl (k0.1 _ _ _ (zlt hn rfl) p_53_6) ?_
      refine r_iload_n dX4_measureRegion_142 rfl ?_
      refine r_aload_n dX4_measureRegion_143 rfl ?_
      refine r_getP (a := 58) dX4_measureRegion_144 kf_RX4_24 (zlt hn rfl) sh_53 rfl (k0.1 _ _ _ (zlt hn rfl) p_53_5) ?_
      refine r_iload_n dX4_measureRegion_147 rfl ?_
      obtain ⟨h16, h17⟩ := h15
      refine r_ialoadE dX4_measureRegion_148 (zlt hn rfl) sh_58 h16.1 h16.2 rfl ?_
      refine r_if_le (t := 156) dX4_measureRegion_149 rfl (k0.2.1 _ _)  (fun c18 => ?_) (fun c19 => ?_)
      · have h20 := h17.1 c18
        refine r_lconst (v := 0) dX4_measureRegion_156 rfl ?_
        refine r_lastore dX4_measureRegion_157 (zlt hn rfl) sh_59 h16.1 h16.2 ?_
        have k21 := zok_l (a := 59) (i := x1.toNat) (x := (0 : Int64)) k0
        exact r_return dX4_measureRegion_158 rfl ⟨k21, rfl, h20⟩
      · have h22 := h17.2 c19
        refine r_lload_n dX4_measureRegion_152 rfl ?_
        refine r_goto (t := 157) dX4_measureRegion_153 rfl ?_
        refine r_lastore dX4_measureRegion_157 (zlt hn rfl) sh_59 h16.1 h16.2 ?_
        have k23 := zok_l (a := 59) (i := x1.toNat) (x := l2) k0
        exact r_return dX4_measureRegion_158 rfl ⟨k23, rfl, h22⟩
    · have h24 := h12.2 c14
      refine r_aload_n dX4_measureRegion_66 rfl ?_
      refine r_getP (a := 33) dX4_measureRegion_67 kf_RX4_41 (zlt hn rfl) sh_53 rfl (k0.1 _ _ _ (zlt hn rfl) p_53_0) ?_
      refine r_getP (a := 36) dX4_measureRegion_70 kf_RX4_104 (zlt hn rfl) sh_33 rfl (k0.1 _ _ _ (zlt hn rfl) (zB_p2 (Or.inl rfl))) ?_
      refine r_iload dX4_measureRegion_73 rfl ?_
      obtain ⟨h25, h26⟩ := h24
      refine r_ialoadE dX4_measureRegion_75 (zlt hn rfl) sh_36 h25.1 h25.2 rfl ?_
      refine r_name (fun y27 e28 => ?_)
      have h29 := h26 y27 e28
      refine r_istore dX4_measureRegion_76 rfl rfl ?_
      refine r_aload_n dX4_measureRegion_78 rfl ?_
      refine r_iload dX4_measureRegion_79 rfl ?_
      refine n_callV (N := M_X4_chainsBeside) (As := [iV y27]) (st := []) dX4_measureRegion_81 mk_X4_chainsBeside km_RX4_113 kd_X4_chainsBeside rfl (zlt hn rfl) sh_53 (q := (RX4, TX4, 10)) rfl rfl (zFits_rm d n n n (Nat.le_refl n)) (Nat.le_of_ble_eq_true rfl) rfl k0 h29 ?_
      rintro _ σ31 k32 ⟨v30, rfl, h34⟩
      change Zm _ _ _ _ _ _ 84 _ [.long v30] _
      refine r_lstore dX4_measureRegion_84 rfl rfl ?_
      refine r_aload_n dX4_measureRegion_86 rfl ?_
      refine r_getP (a := 55) dX4_measureRegion_87 kf_RX4_15 (zlt hn rfl) sh_53 rfl (k32.1 _ _ _ (zlt hn rfl) p_53_2) ?_
      refine r_iload dX4_measureRegion_90 rfl ?_
      refine r_iload_n dX4_measureRegion_92 rfl ?_
      obtain ⟨h35, h36⟩ := h34
      refine r_iastore dX4_measureRegion_93 (zlt hn rfl) sh_55 h35.1 h35.2 ?_
      have k37 := zok_i (i := y27.toNat) (x := x1) k32 sh_55 hx1
      refine r_aload_n dX4_measureRegion_94 rfl ?_
      refine r_getP (a := 60) dX4_measureRegion_95 kf_RX4_31 (zlt hn rfl) sh_53 rfl (k37.1 _ _ _ (zlt hn rfl) p_53_7) ?_
      refine r_iload_n dX4_measureRegion_98 rfl ?_
      refine r_dup2 dX4_measureRegion_99 rfl rfl ?_
      obtain ⟨h38, h39⟩ := h36
      refine r_laloadE dX4_measureRegion_100 (zlt hn rfl) sh_60 h38.1 h38.2 (gL_sI _ _ _ _ _ _) ?_
      refine r_lload dX4_measureRegion_101 rfl ?_
      refine r_lor dX4_measureRegion_103 ?_
      refine r_lastore dX4_measureRegion_104 (zlt hn rfl) sh_60 h38.1 h38.2 ?_
      have k40 := zok_l (a := 60) (i := x1.toNat) (x := (gL σ31 60 x1.toNat) ||| v30) k37
      refine r_aload_n dX4_measureRegion_105 rfl ?_
      refine r_getP (a := 33) dX4_measureRegion_106 kf_RX4_41 (zlt hn rfl) sh_53 rfl (k40.1 _ _ _ (zlt hn rfl) p_53_0) ?_
      refine r_iload dX4_measureRegion_109 rfl ?_
      refine n_callV (N := M_X0_contentOf) (As := [iV y27]) (st := []) dX4_measureRegion_111 mk_X0_contentOf km_RX4_64 kd_X0_contentOf rfl (zlt hn rfl) sh_33 (q := (RX0, TX0, 13)) rfl rfl (zFits_rm d n n n (Nat.le_refl n)) (Nat.le_of_ble_eq_true rfl) rfl k40 h39 ?_
      rintro _ σ42 k43 ⟨v41, rfl, h44, h45⟩
      change Zm _ _ _ _ _ _ 114 _ [iV v41] _
      refine r_if_ne (t := 132) dX4_measureRegion_114 rfl h44  (fun c46 => ?_) (fun c47 => ?_)
      · have h48 := h45.1 c46
        refine r_iinc dX4_measureRegion_132 rfl rfl rfl ?_
        refine r_goto (t := 47) dX4_measureRegion_135 rfl ?_
        obtain ⟨h49, h50⟩ := h48
        exact r_mask [true, true, true, false, true, false, false, false] rfl (h50 hx1 h49 k43)
      · have h51 := h45.2 c47
        refine r_aload_n dX4_measureRegion_117 rfl ?_
        refine r_getP (a := 58) dX4_measureRegion_118 kf_RX4_24 (zlt hn rfl) sh_53 rfl (k43.1 _ _ _ (zlt hn rfl) p_53_5) ?_
        refine r_iload_n dX4_measureRegion_121 rfl ?_
        refine r_dup2 dX4_measureRegion_122 rfl rfl ?_
        refine r_ialoadE dX4_measureRegion_123 (zlt hn rfl) sh_58 h38.1 h38.2 rfl ?_
        refine r_iconst dX4_measureRegion_124 ?_
        refine r_iadd dX4_measureRegion_125 ?_
        obtain ⟨h53, h54⟩ := h51
        refine r_iastore dX4_measureRegion_126 (zlt hn rfl) sh_58 h38.1 h38.2 ?_
        have k52 := zok_i (i := x1.toNat) (x := (gI σ42 58 x1.toNat) + 1) k43 sh_58 h53
        refine r_lload_n dX4_measureRegion_127 rfl ?_
        refine r_lload dX4_measureRegion_128 rfl ?_
        refine r_land dX4_measureRegion_130 ?_
        refine r_lstore_n dX4_measureRegion_131 rfl rfl ?_
        refine r_iinc dX4_measureRegion_132 rfl rfl rfl ?_
        refine r_goto (t := 47) dX4_measureRegion_135 rfl ?_
        obtain ⟨h55, h56⟩ := h54
        exact r_mask [true, true, true, false, true, false, false, false] rfl (h56 hx1 h55 k52)
/-! StoneRoom$Life.chainsBeside -/
theorem dX4_chainsBeside_0 : decode M_X4_chainsBeside.2.1 0 = .ok (.lconst 0, 1) := by decide +kernel
theorem dX4_chainsBeside_1 : decode M_X4_chainsBeside.2.1 1 = .ok (.lstore_n 2, 1) := by decide +kernel
theorem dX4_chainsBeside_2 : decode M_X4_chainsBeside.2.1 2 = .ok (.iconst 0, 1) := by decide +kernel
theorem dX4_chainsBeside_3 : decode M_X4_chainsBeside.2.1 3 = .ok (.istore 4, 2) := by decide +kernel
theorem dX4_chainsBeside_5 : decode M_X4_chainsBeside.2.1 5 = .ok (.iload 4, 2) := by decide +kernel
theorem dX4_chainsBeside_7 : decode M_X4_chainsBeside.2.1 7 = .ok (.iconst 4, 1) := by decide +kernel
theorem dX4_chainsBeside_8 : decode M_X4_chainsBeside.2.1 8 = .ok (.if_icmp .ge 50, 3) := by decide +kernel
theorem dX4_chainsBeside_11 : decode M_X4_chainsBeside.2.1 11 = .ok (.aload_n 0, 1) := by decide +kernel
theorem dX4_chainsBeside_12 : decode M_X4_chainsBeside.2.1 12 = .ok (.getfield 41, 3) := by decide +kernel
theorem dX4_chainsBeside_15 : decode M_X4_chainsBeside.2.1 15 = .ok (.iload_n 1, 1) := by decide +kernel
theorem dX4_chainsBeside_16 : decode M_X4_chainsBeside.2.1 16 = .ok (.iload 4, 2) := by decide +kernel
theorem dX4_chainsBeside_18 : decode M_X4_chainsBeside.2.1 18 = .ok (.invokevirtual 117, 3) := by decide +kernel
theorem dX4_chainsBeside_21 : decode M_X4_chainsBeside.2.1 21 = .ok (.istore 5, 2) := by decide +kernel
theorem dX4_chainsBeside_23 : decode M_X4_chainsBeside.2.1 23 = .ok (.iload 5, 2) := by decide +kernel
theorem dX4_chainsBeside_25 : decode M_X4_chainsBeside.2.1 25 = .ok (.iconst (-1), 1) := by decide +kernel
theorem dX4_chainsBeside_26 : decode M_X4_chainsBeside.2.1 26 = .ok (.if_icmp .eq 26, 3) := by decide +kernel
theorem dX4_chainsBeside_29 : decode M_X4_chainsBeside.2.1 29 = .ok (.aload_n 0, 1) := by decide +kernel
theorem dX4_chainsBeside_30 : decode M_X4_chainsBeside.2.1 30 = .ok (.getfield 9, 3) := by decide +kernel
theorem dX4_chainsBeside_33 : decode M_X4_chainsBeside.2.1 33 = .ok (.iload 5, 2) := by decide +kernel
theorem dX4_chainsBeside_35 : decode M_X4_chainsBeside.2.1 35 = .ok (.iaload, 1) := by decide +kernel
theorem dX4_chainsBeside_36 : decode M_X4_chainsBeside.2.1 36 = .ok (.iconst (-1), 1) := by decide +kernel
theorem dX4_chainsBeside_37 : decode M_X4_chainsBeside.2.1 37 = .ok (.if_icmp .eq 15, 3) := by decide +kernel
theorem dX4_chainsBeside_40 : decode M_X4_chainsBeside.2.1 40 = .ok (.lload_n 2, 1) := by decide +kernel
theorem dX4_chainsBeside_41 : decode M_X4_chainsBeside.2.1 41 = .ok (.lconst 1, 1) := by decide +kernel
theorem dX4_chainsBeside_42 : decode M_X4_chainsBeside.2.1 42 = .ok (.aload_n 0, 1) := by decide +kernel
theorem dX4_chainsBeside_43 : decode M_X4_chainsBeside.2.1 43 = .ok (.getfield 9, 3) := by decide +kernel
theorem dX4_chainsBeside_46 : decode M_X4_chainsBeside.2.1 46 = .ok (.iload 5, 2) := by decide +kernel
theorem dX4_chainsBeside_48 : decode M_X4_chainsBeside.2.1 48 = .ok (.iaload, 1) := by decide +kernel
theorem dX4_chainsBeside_49 : decode M_X4_chainsBeside.2.1 49 = .ok (.lshl, 1) := by decide +kernel
theorem dX4_chainsBeside_50 : decode M_X4_chainsBeside.2.1 50 = .ok (.lor, 1) := by decide +kernel
theorem dX4_chainsBeside_51 : decode M_X4_chainsBeside.2.1 51 = .ok (.lstore_n 2, 1) := by decide +kernel
theorem dX4_chainsBeside_52 : decode M_X4_chainsBeside.2.1 52 = .ok (.iinc 4 1, 3) := by decide +kernel
theorem dX4_chainsBeside_55 : decode M_X4_chainsBeside.2.1 55 = .ok (.goto (-50), 3) := by decide +kernel
theorem dX4_chainsBeside_58 : decode M_X4_chainsBeside.2.1 58 = .ok (.lload_n 2, 1) := by decide +kernel
theorem dX4_chainsBeside_59 : decode M_X4_chainsBeside.2.1 59 = .ok (.lreturn, 1) := by decide +kernel
def L_X4_chainsBeside_5 (X : ZX) (d n : Nat) (P : Option Value → ZSto → Prop) (x1 : Int) (l2 : Int64) (x4 : Int) (σ : ZSto) : Prop := R32 x1 → R32 x4 → ZOk n σ → Zn X M_X4_chainsBeside d n P 5 [some (.ref (zB X + 53)), some (iV x1), some (.long l2), none, some (iV x4), none] [] σ
theorem w_X4_chainsBeside {X : ZX} {d n : Nat} {P : Int64 → ZSto → Prop} {x1 : Int} {σ : ZSto} (hn : 73 ≤ n)  (hx1 : R32 x1)
    (h : L_X4_chainsBeside_5 X d n (zpL P) x1 ((0 : Int64)) 0 σ) :
    ZkL X M_X4_chainsBeside (d + 1) n [.ref (zB X + 53), iV x1] σ P := by
  refine zk_of (ls := [some (.ref (zB X + 53)), some (iV x1), none, none, none, none]) pl_RX4 (Nat.le_of_ble_eq_true rfl) rfl (fun k0 => ?_)
  unfold Zn
  refine r_lconst (v := 0) dX4_chainsBeside_0 rfl ?_
  refine r_lstore_n dX4_chainsBeside_1 rfl rfl ?_
  refine r_iconst dX4_chainsBeside_2 ?_
  refine r_istore dX4_chainsBeside_3 rfl rfl ?_
  exact r_mask [true, true, true, false, true, false] rfl (h hx1 (r32c rfl) k0)
theorem b_X4_chainsBeside_5 {X : ZX} {d n : Nat} {P : Int64 → ZSto → Prop} {x1 : Int} {l2 : Int64} {x4 : Int} {σ : ZSto} (hn : 73 ≤ n) 
    (h : (4 ≤ x4 → P l2 σ) ∧ (¬ (4 ≤ x4) → ZkI X M_X0_neighbour d n [.ref (zB X + 33), iV x1, iV x4] σ (fun v5 σ6 => (v5 = (-1) → R32 (x4 + 1) ∧ L_X4_chainsBeside_5 X d n (zpL P) x1 l2 (x4 + 1) σ6) ∧ (¬ (v5 = (-1)) → (0 ≤ v5 ∧ v5 < 81) ∧ (gI σ6 54 v5.toNat = (-1) → R32 (x4 + 1) ∧ L_X4_chainsBeside_5 X d n (zpL P) x1 l2 (x4 + 1) σ6) ∧ (¬ (gI σ6 54 v5.toNat = (-1)) → R32 (x4 + 1) ∧ L_X4_chainsBeside_5 X d n (zpL P) x1 (l2 ||| (lshlF ((1 : Int64)) (gI σ6 54 v5.toNat))) (x4 + 1) σ6))))) :
    L_X4_chainsBeside_5 X d n (zpL P) x1 l2 x4 σ := by
  intro hx1 hx4 k0
  unfold Zn
  refine r_iload dX4_chainsBeside_5 rfl ?_
  refine r_iconst dX4_chainsBeside_7 ?_
  refine r_icmp_ge (t := 58) dX4_chainsBeside_8 rfl hx4 (r32c rfl) (fun c1 => ?_) (fun c2 => ?_)
  · have h3 := h.1 c1
    refine r_lload_n dX4_chainsBeside_58 rfl ?_
    exact r_lreturn dX4_chainsBeside_59 rfl ⟨k0, _, rfl, h3⟩
  · have h4 := h.2 c2
    refine r_aload_n dX4_chainsBeside_11 rfl ?_
    refine r_getP (a := 33) dX4_chainsBeside_12 kf_RX4_41 (zlt hn rfl) sh_53 rfl (k0.1 _ _ _ (zlt hn rfl) p_53_0) ?_
    refine r_iload_n dX4_chainsBeside_15 rfl ?_
    refine r_iload dX4_chainsBeside_16 rfl ?_
    refine n_callV (N := M_X0_neighbour) (As := [iV x1, iV x4]) (st := []) dX4_chainsBeside_18 mk_X0_neighbour km_RX4_117 kd_X0_neighbour rfl (zlt hn rfl) sh_33 (q := (RX0, TX0, 13)) rfl rfl (zFits_rm d n n n (Nat.le_refl n)) (Nat.le_of_ble_eq_true rfl) rfl k0 h4 ?_
    rintro _ σ6 k7 ⟨v5, rfl, h8, h9⟩
    change Zm _ _ _ _ _ _ 21 _ [iV v5] _
    refine r_istore dX4_chainsBeside_21 rfl rfl ?_
    refine r_iload dX4_chainsBeside_23 rfl ?_
    refine r_iconst dX4_chainsBeside_25 ?_
    refine r_icmp_eq (t := 52) dX4_chainsBeside_26 rfl h8 (r32c rfl) (fun c10 => ?_) (fun c11 => ?_)
    · have h12 := h9.1 c10
      refine r_iinc dX4_chainsBeside_52 rfl rfl rfl ?_
      refine r_goto (t := 5) dX4_chainsBeside_55 rfl ?_
      obtain ⟨h13, h14⟩ := h12
      exact r_mask [true, true, true, false, true, false] rfl (h14 hx1 h13 k7)
    · have h15 := h9.2 c11
      refine r_aload_n dX4_chainsBeside_29 rfl ?_
      refine r_getP (a := 54) dX4_chainsBeside_30 kf_RX4_9 (zlt hn rfl) sh_53 rfl (k7.1 _ _ _ (zlt hn rfl) p_53_1) ?_
      refine r_iload dX4_chainsBeside_33 rfl ?_
      obtain ⟨h16, h17⟩ := h15
      refine r_ialoadE dX4_chainsBeside_35 (zlt hn rfl) sh_54 h16.1 h16.2 rfl ?_
      refine r_iconst dX4_chainsBeside_36 ?_
      refine r_icmp_eq (t := 52) dX4_chainsBeside_37 rfl (k7.2.1 _ _) (r32c rfl) (fun c18 => ?_) (fun c19 => ?_)
      · have h20 := h17.1 c18
        refine r_iinc dX4_chainsBeside_52 rfl rfl rfl ?_
        refine r_goto (t := 5) dX4_chainsBeside_55 rfl ?_
        obtain ⟨h21, h22⟩ := h20
        exact r_mask [true, true, true, false, true, false] rfl (h22 hx1 h21 k7)
      · have h23 := h17.2 c19
        refine r_lload_n dX4_chainsBeside_40 rfl ?_
        refine r_lconst (v := 1) dX4_chainsBeside_41 rfl ?_
        refine r_aload_n dX4_chainsBeside_42 rfl ?_
        refine r_getP (a := 54) dX4_chainsBeside_43 kf_RX4_9 (zlt hn rfl) sh_53 rfl (k7.1 _ _ _ (zlt hn rfl) p_53_1) ?_
        refine r_iload dX4_chainsBeside_46 rfl ?_
        refine r_ialoadE dX4_chainsBeside_48 (zlt hn rfl) sh_54 h16.1 h16.2 rfl ?_
        refine r_lshl dX4_chainsBeside_49 ?_
        refine r_lor dX4_chainsBeside_50 ?_
        refine r_lstore_n dX4_chainsBeside_51 rfl rfl ?_
        refine r_iinc dX4_chainsBeside_52 rfl rfl rfl ?_
        refine r_goto (t := 5) dX4_chainsBeside_55 rfl ?_
        obtain ⟨h24, h25⟩ := h23
        exact r_mask [true, true, true, false, true, false] rfl (h25 hx1 h24 k7)
/-! StoneRoom$Life.livingChains -/
theorem dX4_livingChains_0 : decode M_X4_livingChains.2.1 0 = .ok (.aload_n 0, 1) := by decide +kernel
theorem dX4_livingChains_1 : decode M_X4_livingChains.2.1 1 = .ok (.getfield 34, 3) := by decide +kernel
theorem dX4_livingChains_4 : decode M_X4_livingChains.2.1 4 = .ok (.bipush 64, 2) := by decide +kernel
theorem dX4_livingChains_6 : decode M_X4_livingChains.2.1 6 = .ok (.if_icmp .lt 9, 3) := by decide +kernel
theorem dX4_livingChains_9 : decode M_X4_livingChains.2.1 9 = .ok (.ldc2_w 111, 3) := by decide +kernel
theorem dX4_livingChains_12 : decode M_X4_livingChains.2.1 12 = .ok (.goto 11, 3) := by decide +kernel
theorem dX4_livingChains_15 : decode M_X4_livingChains.2.1 15 = .ok (.lconst 1, 1) := by decide +kernel
theorem dX4_livingChains_16 : decode M_X4_livingChains.2.1 16 = .ok (.aload_n 0, 1) := by decide +kernel
theorem dX4_livingChains_17 : decode M_X4_livingChains.2.1 17 = .ok (.getfield 34, 3) := by decide +kernel
theorem dX4_livingChains_20 : decode M_X4_livingChains.2.1 20 = .ok (.lshl, 1) := by decide +kernel
theorem dX4_livingChains_21 : decode M_X4_livingChains.2.1 21 = .ok (.lconst 1, 1) := by decide +kernel
theorem dX4_livingChains_22 : decode M_X4_livingChains.2.1 22 = .ok (.lsub, 1) := by decide +kernel
theorem dX4_livingChains_23 : decode M_X4_livingChains.2.1 23 = .ok (.lstore_n 1, 1) := by decide +kernel
theorem dX4_livingChains_24 : decode M_X4_livingChains.2.1 24 = .ok (.aload_n 0, 1) := by decide +kernel
theorem dX4_livingChains_25 : decode M_X4_livingChains.2.1 25 = .ok (.getfield 38, 3) := by decide +kernel
theorem dX4_livingChains_28 : decode M_X4_livingChains.2.1 28 = .ok (.bipush 64, 2) := by decide +kernel
theorem dX4_livingChains_30 : decode M_X4_livingChains.2.1 30 = .ok (.if_icmp .lt 9, 3) := by decide +kernel
theorem dX4_livingChains_33 : decode M_X4_livingChains.2.1 33 = .ok (.ldc2_w 111, 3) := by decide +kernel
theorem dX4_livingChains_36 : decode M_X4_livingChains.2.1 36 = .ok (.goto 11, 3) := by decide +kernel
theorem dX4_livingChains_39 : decode M_X4_livingChains.2.1 39 = .ok (.lconst 1, 1) := by decide +kernel
theorem dX4_livingChains_40 : decode M_X4_livingChains.2.1 40 = .ok (.aload_n 0, 1) := by decide +kernel
theorem dX4_livingChains_41 : decode M_X4_livingChains.2.1 41 = .ok (.getfield 38, 3) := by decide +kernel
theorem dX4_livingChains_44 : decode M_X4_livingChains.2.1 44 = .ok (.lshl, 1) := by decide +kernel
theorem dX4_livingChains_45 : decode M_X4_livingChains.2.1 45 = .ok (.lconst 1, 1) := by decide +kernel
theorem dX4_livingChains_46 : decode M_X4_livingChains.2.1 46 = .ok (.lsub, 1) := by decide +kernel
theorem dX4_livingChains_47 : decode M_X4_livingChains.2.1 47 = .ok (.lstore_n 3, 1) := by decide +kernel
theorem dX4_livingChains_48 : decode M_X4_livingChains.2.1 48 = .ok (.iconst 0, 1) := by decide +kernel
theorem dX4_livingChains_49 : decode M_X4_livingChains.2.1 49 = .ok (.istore 5, 2) := by decide +kernel
theorem dX4_livingChains_51 : decode M_X4_livingChains.2.1 51 = .ok (.iload 5, 2) := by decide +kernel
theorem dX4_livingChains_53 : decode M_X4_livingChains.2.1 53 = .ok (.sipush 128, 3) := by decide +kernel
theorem dX4_livingChains_56 : decode M_X4_livingChains.2.1 56 = .ok (.if_icmp .gt 51, 3) := by decide +kernel
theorem dX4_livingChains_59 : decode M_X4_livingChains.2.1 59 = .ok (.lload_n 1, 1) := by decide +kernel
theorem dX4_livingChains_60 : decode M_X4_livingChains.2.1 60 = .ok (.aload_n 0, 1) := by decide +kernel
theorem dX4_livingChains_61 : decode M_X4_livingChains.2.1 61 = .ok (.lload_n 3, 1) := by decide +kernel
theorem dX4_livingChains_62 : decode M_X4_livingChains.2.1 62 = .ok (.invokevirtual 121, 3) := by decide +kernel
theorem dX4_livingChains_65 : decode M_X4_livingChains.2.1 65 = .ok (.land, 1) := by decide +kernel
theorem dX4_livingChains_66 : decode M_X4_livingChains.2.1 66 = .ok (.lstore 6, 2) := by decide +kernel
theorem dX4_livingChains_68 : decode M_X4_livingChains.2.1 68 = .ok (.lload_n 3, 1) := by decide +kernel
theorem dX4_livingChains_69 : decode M_X4_livingChains.2.1 69 = .ok (.aload_n 0, 1) := by decide +kernel
theorem dX4_livingChains_70 : decode M_X4_livingChains.2.1 70 = .ok (.lload 6, 2) := by decide +kernel
theorem dX4_livingChains_72 : decode M_X4_livingChains.2.1 72 = .ok (.invokevirtual 125, 3) := by decide +kernel
theorem dX4_livingChains_75 : decode M_X4_livingChains.2.1 75 = .ok (.land, 1) := by decide +kernel
theorem dX4_livingChains_76 : decode M_X4_livingChains.2.1 76 = .ok (.lstore 8, 2) := by decide +kernel
theorem dX4_livingChains_78 : decode M_X4_livingChains.2.1 78 = .ok (.lload 6, 2) := by decide +kernel
theorem dX4_livingChains_80 : decode M_X4_livingChains.2.1 80 = .ok (.lload_n 1, 1) := by decide +kernel
theorem dX4_livingChains_81 : decode M_X4_livingChains.2.1 81 = .ok (.lcmp, 1) := by decide +kernel
theorem dX4_livingChains_82 : decode M_X4_livingChains.2.1 82 = .ok (.ifCond .ne 13, 3) := by decide +kernel
theorem dX4_livingChains_85 : decode M_X4_livingChains.2.1 85 = .ok (.lload 8, 2) := by decide +kernel
theorem dX4_livingChains_87 : decode M_X4_livingChains.2.1 87 = .ok (.lload_n 3, 1) := by decide +kernel
theorem dX4_livingChains_88 : decode M_X4_livingChains.2.1 88 = .ok (.lcmp, 1) := by decide +kernel
theorem dX4_livingChains_89 : decode M_X4_livingChains.2.1 89 = .ok (.ifCond .ne 6, 3) := by decide +kernel
theorem dX4_livingChains_92 : decode M_X4_livingChains.2.1 92 = .ok (.goto 15, 3) := by decide +kernel
theorem dX4_livingChains_95 : decode M_X4_livingChains.2.1 95 = .ok (.lload 6, 2) := by decide +kernel
theorem dX4_livingChains_97 : decode M_X4_livingChains.2.1 97 = .ok (.lstore_n 1, 1) := by decide +kernel
theorem dX4_livingChains_98 : decode M_X4_livingChains.2.1 98 = .ok (.lload 8, 2) := by decide +kernel
theorem dX4_livingChains_100 : decode M_X4_livingChains.2.1 100 = .ok (.lstore_n 3, 1) := by decide +kernel
theorem dX4_livingChains_101 : decode M_X4_livingChains.2.1 101 = .ok (.iinc 5 1, 3) := by decide +kernel
theorem dX4_livingChains_104 : decode M_X4_livingChains.2.1 104 = .ok (.goto (-53), 3) := by decide +kernel
theorem dX4_livingChains_107 : decode M_X4_livingChains.2.1 107 = .ok (.lload_n 1, 1) := by decide +kernel
theorem dX4_livingChains_108 : decode M_X4_livingChains.2.1 108 = .ok (.lreturn, 1) := by decide +kernel
def L_X4_livingChains_51 (X : ZX) (d n : Nat) (P : Option Value → ZSto → Prop) (l1 : Int64) (l3 : Int64) (x5 : Int) (σ : ZSto) : Prop := R32 x5 → ZOk n σ → Zn X M_X4_livingChains d n P 51 [some (.ref (zB X + 53)), some (.long l1), none, some (.long l3), none, some (iV x5), none, none, none, none] [] σ
theorem w_X4_livingChains {X : ZX} {d n : Nat} {P : Int64 → ZSto → Prop}  {σ : ZSto} (hn : 73 ≤ n)  
    (h : (gI σ 53 8 < 64 → (gI σ 53 9 < 64 → L_X4_livingChains_51 X d n (zpL P) ((lshlF ((1 : Int64)) (gI σ 53 8)) - ((1 : Int64))) ((lshlF ((1 : Int64)) (gI σ 53 9)) - ((1 : Int64))) 0 σ) ∧ (¬ (gI σ 53 9 < 64) → L_X4_livingChains_51 X d n (zpL P) ((lshlF ((1 : Int64)) (gI σ 53 8)) - ((1 : Int64))) ((-1 : Int64)) 0 σ)) ∧ (¬ (gI σ 53 8 < 64) → (gI σ 53 9 < 64 → L_X4_livingChains_51 X d n (zpL P) ((-1 : Int64)) ((lshlF ((1 : Int64)) (gI σ 53 9)) - ((1 : Int64))) 0 σ) ∧ (¬ (gI σ 53 9 < 64) → L_X4_livingChains_51 X d n (zpL P) ((-1 : Int64)) ((-1 : Int64)) 0 σ))) :
    ZkL X M_X4_livingChains (d + 1) n [.ref (zB X + 53)] σ P := by
  refine zk_of (ls := [some (.ref (zB X + 53)), none, none, none, none, none, none, none, none, none]) pl_RX4 (Nat.le_of_ble_eq_true rfl) rfl (fun k0 => ?_)
  unfold Zn
  refine r_aload_n dX4_livingChains_0 rfl ?_
  refine r_getI dX4_livingChains_1 kf_RX4_34 (zlt hn rfl) sh_53 (Or.inl rfl) rfl ?_
  refine r_bipush dX4_livingChains_4 rfl ?_
  refine r_icmp_lt (t := 15) dX4_livingChains_6 rfl (k0.2.1 _ _) (r32c rfl) (fun c1 => ?_) (fun c2 => ?_)
  · have h3 := h.1 c1
    refine r_lconst (v := 1) dX4_livingChains_15 rfl ?_
    refine r_aload_n dX4_livingChains_16 rfl ?_
    refine r_getI dX4_livingChains_17 kf_RX4_34 (zlt hn rfl) sh_53 (Or.inl rfl) rfl ?_
    refine r_lshl dX4_livingChains_20 ?_
    refine r_lconst (v := 1) dX4_livingChains_21 rfl ?_
    refine r_lsub dX4_livingChains_22 ?_
    refine r_lstore_n dX4_livingChains_23 rfl rfl ?_
    refine r_aload_n dX4_livingChains_24 rfl ?_
    refine r_getI dX4_livingChains_25 kf_RX4_38 (zlt hn rfl) sh_53 (Or.inl rfl) rfl ?_
    refine r_bipush dX4_livingChains_28 rfl ?_
    refine r_icmp_lt (t := 39) dX4_livingChains_30 rfl (k0.2.1 _ _) (r32c rfl) (fun c4 => ?_) (fun c5 => ?_)
    · have h6 := h3.1 c4
      refine r_lconst (v := 1) dX4_livingChains_39 rfl ?_
      refine r_aload_n dX4_livingChains_40 rfl ?_
      refine r_getI dX4_livingChains_41 kf_RX4_38 (zlt hn rfl) sh_53 (Or.inl rfl) rfl ?_
      refine r_lshl dX4_livingChains_44 ?_
      refine r_lconst (v := 1) dX4_livingChains_45 rfl ?_
      refine r_lsub dX4_livingChains_46 ?_
      refine r_lstore_n dX4_livingChains_47 rfl rfl ?_
      refine r_iconst dX4_livingChains_48 ?_
      refine r_istore dX4_livingChains_49 rfl rfl ?_
      exact r_mask [true, true, false, true, false, true, false, false, false, false] rfl (h6 (r32c rfl) k0)
    · have h7 := h3.2 c5
      refine r_ldc2 dX4_livingChains_33 kc_RX4_111 ?_
      refine r_goto (t := 47) dX4_livingChains_36 rfl ?_
      refine r_lstore_n dX4_livingChains_47 rfl rfl ?_
      refine r_iconst dX4_livingChains_48 ?_
      refine r_istore dX4_livingChains_49 rfl rfl ?_
      exact r_mask [true, true, false, true, false, true, false, false, false, false] rfl (h7 (r32c rfl) k0)
  · have h8 := h.2 c2
    refine r_ldc2 dX4_livingChains_9 kc_RX4_111 ?_
    refine r_goto (t := 23) dX4_livingChains_12 rfl ?_
    refine r_lstore_n dX4_livingChains_23 rfl rfl ?_
    refine r_aload_n dX4_livingChains_24 rfl ?_
    refine r_getI dX4_livingChains_25 kf_RX4_38 (zlt hn rfl) sh_53 (Or.inl rfl) rfl ?_
    refine r_bipush dX4_livingChains_28 rfl ?_
    refine r_icmp_lt (t := 39) dX4_livingChains_30 rfl (k0.2.1 _ _) (r32c rfl) (fun c9 => ?_) (fun c10 => ?_)
    · have h11 := h8.1 c9
      refine r_lconst (v := 1) dX4_livingChains_39 rfl ?_
      refine r_aload_n dX4_livingChains_40 rfl ?_
      refine r_getI dX4_livingChains_41 kf_RX4_38 (zlt hn rfl) sh_53 (Or.inl rfl) rfl ?_
      refine r_lshl dX4_livingChains_44 ?_
      refine r_lconst (v := 1) dX4_livingChains_45 rfl ?_
      refine r_lsub dX4_livingChains_46 ?_
      refine r_lstore_n dX4_livingChains_47 rfl rfl ?_
      refine r_iconst dX4_livingChains_48 ?_
      refine r_istore dX4_livingChains_49 rfl rfl ?_
      exact r_mask [true, true, false, true, false, true, false, false, false, false] rfl (h11 (r32c rfl) k0)
    · have h12 := h8.2 c10
      refine r_ldc2 dX4_livingChains_33 kc_RX4_111 ?_
      refine r_goto (t := 47) dX4_livingChains_36 rfl ?_
      refine r_lstore_n dX4_livingChains_47 rfl rfl ?_
      refine r_iconst dX4_livingChains_48 ?_
      refine r_istore dX4_livingChains_49 rfl rfl ?_
      exact r_mask [true, true, false, true, false, true, false, false, false, false] rfl (h12 (r32c rfl) k0)
theorem b_X4_livingChains_51 {X : ZX} {d n : Nat} {P : Int64 → ZSto → Prop} {l1 : Int64} {l3 : Int64} {x5 : Int} {σ : ZSto} (hn : 73 ≤ n) 
    (h : (128 < x5 → P l1 σ) ∧ (¬ (128 < x5) → ZkL X M_X4_chainsWithTwo d n [.ref (zB X + 53), .long l3] σ (fun v5 σ6 => ZkL X M_X4_regionsAmong d n [.ref (zB X + 53), .long (l1 &&& v5)] σ6 (fun v10 σ11 => (¬ lcmpF (l1 &&& v5) l1 = 0 → R32 (x5 + 1) ∧ L_X4_livingChains_51 X d n (zpL P) (l1 &&& v5) (l3 &&& v10) (x5 + 1) σ11) ∧ (lcmpF (l1 &&& v5) l1 = 0 → (¬ lcmpF (l3 &&& v10) l3 = 0 → R32 (x5 + 1) ∧ L_X4_livingChains_51 X d n (zpL P) (l1 &&& v5) (l3 &&& v10) (x5 + 1) σ11) ∧ (lcmpF (l3 &&& v10) l3 = 0 → P l1 σ11)))))) :
    L_X4_livingChains_51 X d n (zpL P) l1 l3 x5 σ := by
  intro hx5 k0
  unfold Zn
  refine r_iload dX4_livingChains_51 rfl ?_
  refine r_sipush dX4_livingChains_53 rfl ?_
  refine r_icmp_gt (t := 107) dX4_livingChains_56 rfl hx5 (r32c rfl) (fun c1 => ?_) (fun c2 => ?_)
  · have h3 := h.1 c1
    refine r_lload_n dX4_livingChains_107 rfl ?_
    exact r_lreturn dX4_livingChains_108 rfl ⟨k0, _, rfl, h3⟩
  · have h4 := h.2 c2
    refine r_lload_n dX4_livingChains_59 rfl ?_
    refine r_aload_n dX4_livingChains_60 rfl ?_
    refine r_lload_n dX4_livingChains_61 rfl ?_
    refine n_callV (N := M_X4_chainsWithTwo) (As := [.long l3]) (st := [.long l1]) dX4_livingChains_62 mk_X4_chainsWithTwo km_RX4_121 kd_X4_chainsWithTwo rfl (zlt hn rfl) sh_53 (q := (RX4, TX4, 10)) rfl rfl (zFits_rm d n n n (Nat.le_refl n)) (Nat.le_of_ble_eq_true rfl) rfl k0 h4 ?_
    rintro _ σ6 k7 ⟨v5, rfl, h9⟩
    change Zm _ _ _ _ _ _ 65 _ [.long v5, .long l1] _
    refine r_land dX4_livingChains_65 ?_
    refine r_lstore dX4_livingChains_66 rfl rfl ?_
    refine r_lload_n dX4_livingChains_68 rfl ?_
    refine r_aload_n dX4_livingChains_69 rfl ?_
    refine r_lload dX4_livingChains_70 rfl ?_
    refine n_callV (N := M_X4_regionsAmong) (As := [.long (l1 &&& v5)]) (st := [.long l3]) dX4_livingChains_72 mk_X4_regionsAmong km_RX4_125 kd_X4_regionsAmong rfl (zlt hn rfl) sh_53 (q := (RX4, TX4, 10)) rfl rfl (zFits_rm d n n n (Nat.le_refl n)) (Nat.le_of_ble_eq_true rfl) rfl k7 h9 ?_
    rintro _ σ11 k12 ⟨v10, rfl, h14⟩
    change Zm _ _ _ _ _ _ 75 _ [.long v10, .long l3] _
    refine r_land dX4_livingChains_75 ?_
    refine r_lstore dX4_livingChains_76 rfl rfl ?_
    refine r_lload dX4_livingChains_78 rfl ?_
    refine r_lload_n dX4_livingChains_80 rfl ?_
    refine r_lcmp dX4_livingChains_81 ?_
    refine r_if_ne (t := 95) dX4_livingChains_82 rfl (r32_lcmp _ _)  (fun c15 => ?_) (fun c16 => ?_)
    · have h17 := h14.1 c15
      refine r_lload dX4_livingChains_95 rfl ?_
      refine r_lstore_n dX4_livingChains_97 rfl rfl ?_
      refine r_lload dX4_livingChains_98 rfl ?_
      refine r_lstore_n dX4_livingChains_100 rfl rfl ?_
      refine r_iinc dX4_livingChains_101 rfl rfl rfl ?_
      refine r_goto (t := 51) dX4_livingChains_104 rfl ?_
      obtain ⟨h18, h19⟩ := h17
      exact r_mask [true, true, false, true, false, true, false, false, false, false] rfl (h19 h18 k12)
    · have h20 := h14.2 c16
      refine r_lload dX4_livingChains_85 rfl ?_
      refine r_lload_n dX4_livingChains_87 rfl ?_
      refine r_lcmp dX4_livingChains_88 ?_
      refine r_if_ne (t := 95) dX4_livingChains_89 rfl (r32_lcmp _ _)  (fun c21 => ?_) (fun c22 => ?_)
      · have h23 := h20.1 c21
        refine r_lload dX4_livingChains_95 rfl ?_
        refine r_lstore_n dX4_livingChains_97 rfl rfl ?_
        refine r_lload dX4_livingChains_98 rfl ?_
        refine r_lstore_n dX4_livingChains_100 rfl rfl ?_
        refine r_iinc dX4_livingChains_101 rfl rfl rfl ?_
        refine r_goto (t := 51) dX4_livingChains_104 rfl ?_
        obtain ⟨h24, h25⟩ := h23
        exact r_mask [true, true, false, true, false, true, false, false, false, false] rfl (h25 h24 k12)
      · have h26 := h20.2 c22
        refine r_goto (t := 107) dX4_livingChains_92 rfl ?_
        refine r_lload_n dX4_livingChains_107 rfl ?_
        exact r_lreturn dX4_livingChains_108 rfl ⟨k12, _, rfl, h26⟩
/-! StoneRoom$Life.chainsWithTwo -/
theorem dX4_chainsWithTwo_0 : decode M_X4_chainsWithTwo.2.1 0 = .ok (.lconst 0, 1) := by decide +kernel
theorem dX4_chainsWithTwo_1 : decode M_X4_chainsWithTwo.2.1 1 = .ok (.lstore_n 3, 1) := by decide +kernel
theorem dX4_chainsWithTwo_2 : decode M_X4_chainsWithTwo.2.1 2 = .ok (.lconst 0, 1) := by decide +kernel
theorem dX4_chainsWithTwo_3 : decode M_X4_chainsWithTwo.2.1 3 = .ok (.lstore 5, 2) := by decide +kernel
theorem dX4_chainsWithTwo_5 : decode M_X4_chainsWithTwo.2.1 5 = .ok (.iconst 0, 1) := by decide +kernel
theorem dX4_chainsWithTwo_6 : decode M_X4_chainsWithTwo.2.1 6 = .ok (.istore 7, 2) := by decide +kernel
theorem dX4_chainsWithTwo_8 : decode M_X4_chainsWithTwo.2.1 8 = .ok (.iload 7, 2) := by decide +kernel
theorem dX4_chainsWithTwo_10 : decode M_X4_chainsWithTwo.2.1 10 = .ok (.aload_n 0, 1) := by decide +kernel
theorem dX4_chainsWithTwo_11 : decode M_X4_chainsWithTwo.2.1 11 = .ok (.getfield 38, 3) := by decide +kernel
theorem dX4_chainsWithTwo_14 : decode M_X4_chainsWithTwo.2.1 14 = .ok (.if_icmp .ge 51, 3) := by decide +kernel
theorem dX4_chainsWithTwo_17 : decode M_X4_chainsWithTwo.2.1 17 = .ok (.iload 7, 2) := by decide +kernel
theorem dX4_chainsWithTwo_19 : decode M_X4_chainsWithTwo.2.1 19 = .ok (.bipush 64, 2) := by decide +kernel
theorem dX4_chainsWithTwo_21 : decode M_X4_chainsWithTwo.2.1 21 = .ok (.if_icmp .ge 44, 3) := by decide +kernel
theorem dX4_chainsWithTwo_24 : decode M_X4_chainsWithTwo.2.1 24 = .ok (.lload_n 1, 1) := by decide +kernel
theorem dX4_chainsWithTwo_25 : decode M_X4_chainsWithTwo.2.1 25 = .ok (.iload 7, 2) := by decide +kernel
theorem dX4_chainsWithTwo_27 : decode M_X4_chainsWithTwo.2.1 27 = .ok (.lushr, 1) := by decide +kernel
theorem dX4_chainsWithTwo_28 : decode M_X4_chainsWithTwo.2.1 28 = .ok (.lconst 1, 1) := by decide +kernel
theorem dX4_chainsWithTwo_29 : decode M_X4_chainsWithTwo.2.1 29 = .ok (.land, 1) := by decide +kernel
theorem dX4_chainsWithTwo_30 : decode M_X4_chainsWithTwo.2.1 30 = .ok (.lconst 0, 1) := by decide +kernel
theorem dX4_chainsWithTwo_31 : decode M_X4_chainsWithTwo.2.1 31 = .ok (.lcmp, 1) := by decide +kernel
theorem dX4_chainsWithTwo_32 : decode M_X4_chainsWithTwo.2.1 32 = .ok (.ifCond .eq 27, 3) := by decide +kernel
theorem dX4_chainsWithTwo_35 : decode M_X4_chainsWithTwo.2.1 35 = .ok (.lload 5, 2) := by decide +kernel
theorem dX4_chainsWithTwo_37 : decode M_X4_chainsWithTwo.2.1 37 = .ok (.lload_n 3, 1) := by decide +kernel
theorem dX4_chainsWithTwo_38 : decode M_X4_chainsWithTwo.2.1 38 = .ok (.aload_n 0, 1) := by decide +kernel
theorem dX4_chainsWithTwo_39 : decode M_X4_chainsWithTwo.2.1 39 = .ok (.getfield 27, 3) := by decide +kernel
theorem dX4_chainsWithTwo_42 : decode M_X4_chainsWithTwo.2.1 42 = .ok (.iload 7, 2) := by decide +kernel
theorem dX4_chainsWithTwo_44 : decode M_X4_chainsWithTwo.2.1 44 = .ok (.laload, 1) := by decide +kernel
theorem dX4_chainsWithTwo_45 : decode M_X4_chainsWithTwo.2.1 45 = .ok (.land, 1) := by decide +kernel
theorem dX4_chainsWithTwo_46 : decode M_X4_chainsWithTwo.2.1 46 = .ok (.lor, 1) := by decide +kernel
theorem dX4_chainsWithTwo_47 : decode M_X4_chainsWithTwo.2.1 47 = .ok (.lstore 5, 2) := by decide +kernel
theorem dX4_chainsWithTwo_49 : decode M_X4_chainsWithTwo.2.1 49 = .ok (.lload_n 3, 1) := by decide +kernel
theorem dX4_chainsWithTwo_50 : decode M_X4_chainsWithTwo.2.1 50 = .ok (.aload_n 0, 1) := by decide +kernel
theorem dX4_chainsWithTwo_51 : decode M_X4_chainsWithTwo.2.1 51 = .ok (.getfield 27, 3) := by decide +kernel
theorem dX4_chainsWithTwo_54 : decode M_X4_chainsWithTwo.2.1 54 = .ok (.iload 7, 2) := by decide +kernel
theorem dX4_chainsWithTwo_56 : decode M_X4_chainsWithTwo.2.1 56 = .ok (.laload, 1) := by decide +kernel
theorem dX4_chainsWithTwo_57 : decode M_X4_chainsWithTwo.2.1 57 = .ok (.lor, 1) := by decide +kernel
theorem dX4_chainsWithTwo_58 : decode M_X4_chainsWithTwo.2.1 58 = .ok (.lstore_n 3, 1) := by decide +kernel
theorem dX4_chainsWithTwo_59 : decode M_X4_chainsWithTwo.2.1 59 = .ok (.iinc 7 1, 3) := by decide +kernel
theorem dX4_chainsWithTwo_62 : decode M_X4_chainsWithTwo.2.1 62 = .ok (.goto (-54), 3) := by decide +kernel
theorem dX4_chainsWithTwo_65 : decode M_X4_chainsWithTwo.2.1 65 = .ok (.lload 5, 2) := by decide +kernel
theorem dX4_chainsWithTwo_67 : decode M_X4_chainsWithTwo.2.1 67 = .ok (.lreturn, 1) := by decide +kernel
def L_X4_chainsWithTwo_8 (X : ZX) (d n : Nat) (P : Option Value → ZSto → Prop) (l1 : Int64) (l3 : Int64) (l5 : Int64) (x7 : Int) (σ : ZSto) : Prop := R32 x7 → ZOk n σ → Zn X M_X4_chainsWithTwo d n P 8 [some (.ref (zB X + 53)), some (.long l1), none, some (.long l3), none, some (.long l5), none, some (iV x7)] [] σ
theorem w_X4_chainsWithTwo {X : ZX} {d n : Nat} {P : Int64 → ZSto → Prop} {l1 : Int64} {σ : ZSto} (hn : 73 ≤ n)  
    (h : L_X4_chainsWithTwo_8 X d n (zpL P) l1 ((0 : Int64)) ((0 : Int64)) 0 σ) :
    ZkL X M_X4_chainsWithTwo (d + 1) n [.ref (zB X + 53), .long l1] σ P := by
  refine zk_of (ls := [some (.ref (zB X + 53)), some (.long l1), none, none, none, none, none, none]) pl_RX4 (Nat.le_of_ble_eq_true rfl) rfl (fun k0 => ?_)
  unfold Zn
  refine r_lconst (v := 0) dX4_chainsWithTwo_0 rfl ?_
  refine r_lstore_n dX4_chainsWithTwo_1 rfl rfl ?_
  refine r_lconst (v := 0) dX4_chainsWithTwo_2 rfl ?_
  refine r_lstore dX4_chainsWithTwo_3 rfl rfl ?_
  refine r_iconst dX4_chainsWithTwo_5 ?_
  refine r_istore dX4_chainsWithTwo_6 rfl rfl ?_
  exact r_mask [true, true, false, true, false, true, false, true] rfl (h (r32c rfl) k0)
theorem b_X4_chainsWithTwo_8 {X : ZX} {d n : Nat} {P : Int64 → ZSto → Prop} {l1 : Int64} {l3 : Int64} {l5 : Int64} {x7 : Int} {σ : ZSto} (hn : 73 ≤ n) 
    (h : (gI σ 53 9 ≤ x7 → P l5 σ) ∧ (¬ (gI σ 53 9 ≤ x7) → (64 ≤ x7 → P l5 σ) ∧ (¬ (64 ≤ x7) → (lcmpF ((lushrF l1 x7) &&& ((1 : Int64))) ((0 : Int64)) = 0 → R32 (x7 + 1) ∧ L_X4_chainsWithTwo_8 X d n (zpL P) l1 l3 l5 (x7 + 1) σ) ∧ (¬ (lcmpF ((lushrF l1 x7) &&& ((1 : Int64))) ((0 : Int64)) = 0) → (0 ≤ x7 ∧ x7 < 64) ∧ R32 (x7 + 1) ∧ L_X4_chainsWithTwo_8 X d n (zpL P) l1 (l3 ||| (gL σ 59 x7.toNat)) (l5 ||| (l3 &&& (gL σ 59 x7.toNat))) (x7 + 1) σ)))) :
    L_X4_chainsWithTwo_8 X d n (zpL P) l1 l3 l5 x7 σ := by
  intro hx7 k0
  unfold Zn
  refine r_iload dX4_chainsWithTwo_8 rfl ?_
  refine r_aload_n dX4_chainsWithTwo_10 rfl ?_
  refine r_getI dX4_chainsWithTwo_11 kf_RX4_38 (zlt hn rfl) sh_53 (Or.inl rfl) rfl ?_
  refine r_icmp_ge (t := 65) dX4_chainsWithTwo_14 rfl hx7 (k0.2.1 _ _) (fun c1 => ?_) (fun c2 => ?_)
  · have h3 := h.1 c1
    refine r_lload dX4_chainsWithTwo_65 rfl ?_
    exact r_lreturn dX4_chainsWithTwo_67 rfl ⟨k0, _, rfl, h3⟩
  · have h4 := h.2 c2
    refine r_iload dX4_chainsWithTwo_17 rfl ?_
    refine r_bipush dX4_chainsWithTwo_19 rfl ?_
    refine r_icmp_ge (t := 65) dX4_chainsWithTwo_21 rfl hx7 (r32c rfl) (fun c5 => ?_) (fun c6 => ?_)
    · have h7 := h4.1 c5
      refine r_lload dX4_chainsWithTwo_65 rfl ?_
      exact r_lreturn dX4_chainsWithTwo_67 rfl ⟨k0, _, rfl, h7⟩
    · have h8 := h4.2 c6
      refine r_lload_n dX4_chainsWithTwo_24 rfl ?_
      refine r_iload dX4_chainsWithTwo_25 rfl ?_
      refine r_lushr dX4_chainsWithTwo_27 ?_
      refine r_lconst (v := 1) dX4_chainsWithTwo_28 rfl ?_
      refine r_land dX4_chainsWithTwo_29 ?_
      refine r_lconst (v := 0) dX4_chainsWithTwo_30 rfl ?_
      refine r_lcmp dX4_chainsWithTwo_31 ?_
      refine r_if_eq (t := 59) dX4_chainsWithTwo_32 rfl (r32_lcmp _ _)  (fun c9 => ?_) (fun c10 => ?_)
      · have h11 := h8.1 c9
        refine r_iinc dX4_chainsWithTwo_59 rfl rfl rfl ?_
        refine r_goto (t := 8) dX4_chainsWithTwo_62 rfl ?_
        obtain ⟨h12, h13⟩ := h11
        exact r_mask [true, true, false, true, false, true, false, true] rfl (h13 h12 k0)
      · have h14 := h8.2 c10
        refine r_lload dX4_chainsWithTwo_35 rfl ?_
        refine r_lload_n dX4_chainsWithTwo_37 rfl ?_
        refine r_aload_n dX4_chainsWithTwo_38 rfl ?_
        refine r_getP (a := 59) dX4_chainsWithTwo_39 kf_RX4_27 (zlt hn rfl) sh_53 rfl (k0.1 _ _ _ (zlt hn rfl) p_53_6) ?_
        refine r_iload dX4_chainsWithTwo_42 rfl ?_
        obtain ⟨h15, h16⟩ := h14
        refine r_laloadE dX4_chainsWithTwo_44 (zlt hn rfl) sh_59 h15.1 h15.2 rfl ?_
        refine r_land dX4_chainsWithTwo_45 ?_
        refine r_lor dX4_chainsWithTwo_46 ?_
        refine r_lstore dX4_chainsWithTwo_47 rfl rfl ?_
        refine r_lload_n dX4_chainsWithTwo_49 rfl ?_
        refine r_aload_n dX4_chainsWithTwo_50 rfl ?_
        refine r_getP (a := 59) dX4_chainsWithTwo_51 kf_RX4_27 (zlt hn rfl) sh_53 rfl (k0.1 _ _ _ (zlt hn rfl) p_53_6) ?_
        refine r_iload dX4_chainsWithTwo_54 rfl ?_
        refine r_laloadE dX4_chainsWithTwo_56 (zlt hn rfl) sh_59 h15.1 h15.2 rfl ?_
        refine r_lor dX4_chainsWithTwo_57 ?_
        refine r_lstore_n dX4_chainsWithTwo_58 rfl rfl ?_
        refine r_iinc dX4_chainsWithTwo_59 rfl rfl rfl ?_
        refine r_goto (t := 8) dX4_chainsWithTwo_62 rfl ?_
        obtain ⟨h17, h18⟩ := h16
        exact r_mask [true, true, false, true, false, true, false, true] rfl (h18 h17 k0)
/-! StoneRoom$Life.regionsAmong -/
theorem dX4_regionsAmong_0 : decode M_X4_regionsAmong.2.1 0 = .ok (.lconst 0, 1) := by decide +kernel
theorem dX4_regionsAmong_1 : decode M_X4_regionsAmong.2.1 1 = .ok (.lstore_n 3, 1) := by decide +kernel
theorem dX4_regionsAmong_2 : decode M_X4_regionsAmong.2.1 2 = .ok (.iconst 0, 1) := by decide +kernel
theorem dX4_regionsAmong_3 : decode M_X4_regionsAmong.2.1 3 = .ok (.istore 5, 2) := by decide +kernel
theorem dX4_regionsAmong_5 : decode M_X4_regionsAmong.2.1 5 = .ok (.iload 5, 2) := by decide +kernel
theorem dX4_regionsAmong_7 : decode M_X4_regionsAmong.2.1 7 = .ok (.aload_n 0, 1) := by decide +kernel
theorem dX4_regionsAmong_8 : decode M_X4_regionsAmong.2.1 8 = .ok (.getfield 38, 3) := by decide +kernel
theorem dX4_regionsAmong_11 : decode M_X4_regionsAmong.2.1 11 = .ok (.if_icmp .ge 41, 3) := by decide +kernel
theorem dX4_regionsAmong_14 : decode M_X4_regionsAmong.2.1 14 = .ok (.iload 5, 2) := by decide +kernel
theorem dX4_regionsAmong_16 : decode M_X4_regionsAmong.2.1 16 = .ok (.bipush 64, 2) := by decide +kernel
theorem dX4_regionsAmong_18 : decode M_X4_regionsAmong.2.1 18 = .ok (.if_icmp .ge 34, 3) := by decide +kernel
theorem dX4_regionsAmong_21 : decode M_X4_regionsAmong.2.1 21 = .ok (.aload_n 0, 1) := by decide +kernel
theorem dX4_regionsAmong_22 : decode M_X4_regionsAmong.2.1 22 = .ok (.getfield 31, 3) := by decide +kernel
theorem dX4_regionsAmong_25 : decode M_X4_regionsAmong.2.1 25 = .ok (.iload 5, 2) := by decide +kernel
theorem dX4_regionsAmong_27 : decode M_X4_regionsAmong.2.1 27 = .ok (.laload, 1) := by decide +kernel
theorem dX4_regionsAmong_28 : decode M_X4_regionsAmong.2.1 28 = .ok (.lload_n 1, 1) := by decide +kernel
theorem dX4_regionsAmong_29 : decode M_X4_regionsAmong.2.1 29 = .ok (.ldc2_w 111, 3) := by decide +kernel
theorem dX4_regionsAmong_32 : decode M_X4_regionsAmong.2.1 32 = .ok (.lxor, 1) := by decide +kernel
theorem dX4_regionsAmong_33 : decode M_X4_regionsAmong.2.1 33 = .ok (.land, 1) := by decide +kernel
theorem dX4_regionsAmong_34 : decode M_X4_regionsAmong.2.1 34 = .ok (.lconst 0, 1) := by decide +kernel
theorem dX4_regionsAmong_35 : decode M_X4_regionsAmong.2.1 35 = .ok (.lcmp, 1) := by decide +kernel
theorem dX4_regionsAmong_36 : decode M_X4_regionsAmong.2.1 36 = .ok (.ifCond .ne 10, 3) := by decide +kernel
theorem dX4_regionsAmong_39 : decode M_X4_regionsAmong.2.1 39 = .ok (.lload_n 3, 1) := by decide +kernel
theorem dX4_regionsAmong_40 : decode M_X4_regionsAmong.2.1 40 = .ok (.lconst 1, 1) := by decide +kernel
theorem dX4_regionsAmong_41 : decode M_X4_regionsAmong.2.1 41 = .ok (.iload 5, 2) := by decide +kernel
theorem dX4_regionsAmong_43 : decode M_X4_regionsAmong.2.1 43 = .ok (.lshl, 1) := by decide +kernel
theorem dX4_regionsAmong_44 : decode M_X4_regionsAmong.2.1 44 = .ok (.lor, 1) := by decide +kernel
theorem dX4_regionsAmong_45 : decode M_X4_regionsAmong.2.1 45 = .ok (.lstore_n 3, 1) := by decide +kernel
theorem dX4_regionsAmong_46 : decode M_X4_regionsAmong.2.1 46 = .ok (.iinc 5 1, 3) := by decide +kernel
theorem dX4_regionsAmong_49 : decode M_X4_regionsAmong.2.1 49 = .ok (.goto (-44), 3) := by decide +kernel
theorem dX4_regionsAmong_52 : decode M_X4_regionsAmong.2.1 52 = .ok (.lload_n 3, 1) := by decide +kernel
theorem dX4_regionsAmong_53 : decode M_X4_regionsAmong.2.1 53 = .ok (.lreturn, 1) := by decide +kernel
def L_X4_regionsAmong_5 (X : ZX) (d n : Nat) (P : Option Value → ZSto → Prop) (l1 : Int64) (l3 : Int64) (x5 : Int) (σ : ZSto) : Prop := R32 x5 → ZOk n σ → Zn X M_X4_regionsAmong d n P 5 [some (.ref (zB X + 53)), some (.long l1), none, some (.long l3), none, some (iV x5)] [] σ
theorem w_X4_regionsAmong {X : ZX} {d n : Nat} {P : Int64 → ZSto → Prop} {l1 : Int64} {σ : ZSto} (hn : 73 ≤ n)  
    (h : L_X4_regionsAmong_5 X d n (zpL P) l1 ((0 : Int64)) 0 σ) :
    ZkL X M_X4_regionsAmong (d + 1) n [.ref (zB X + 53), .long l1] σ P := by
  refine zk_of (ls := [some (.ref (zB X + 53)), some (.long l1), none, none, none, none]) pl_RX4 (Nat.le_of_ble_eq_true rfl) rfl (fun k0 => ?_)
  unfold Zn
  refine r_lconst (v := 0) dX4_regionsAmong_0 rfl ?_
  refine r_lstore_n dX4_regionsAmong_1 rfl rfl ?_
  refine r_iconst dX4_regionsAmong_2 ?_
  refine r_istore dX4_regionsAmong_3 rfl rfl ?_
  exact r_mask [true, true, false, true, false, true] rfl (h (r32c rfl) k0)
theorem b_X4_regionsAmong_5 {X : ZX} {d n : Nat} {P : Int64 → ZSto → Prop} {l1 : Int64} {l3 : Int64} {x5 : Int} {σ : ZSto} (hn : 73 ≤ n) 
    (h : (gI σ 53 9 ≤ x5 → P l3 σ) ∧ (¬ (gI σ 53 9 ≤ x5) → (64 ≤ x5 → P l3 σ) ∧ (¬ (64 ≤ x5) → (0 ≤ x5 ∧ x5 < 64) ∧ (¬ lcmpF ((gL σ 60 x5.toNat) &&& (l1 ^^^ ((-1 : Int64)))) ((0 : Int64)) = 0 → R32 (x5 + 1) ∧ L_X4_regionsAmong_5 X d n (zpL P) l1 l3 (x5 + 1) σ) ∧ (lcmpF ((gL σ 60 x5.toNat) &&& (l1 ^^^ ((-1 : Int64)))) ((0 : Int64)) = 0 → R32 (x5 + 1) ∧ L_X4_regionsAmong_5 X d n (zpL P) l1 (l3 ||| (lshlF ((1 : Int64)) x5)) (x5 + 1) σ)))) :
    L_X4_regionsAmong_5 X d n (zpL P) l1 l3 x5 σ := by
  intro hx5 k0
  unfold Zn
  refine r_iload dX4_regionsAmong_5 rfl ?_
  refine r_aload_n dX4_regionsAmong_7 rfl ?_
  refine r_getI dX4_regionsAmong_8 kf_RX4_38 (zlt hn rfl) sh_53 (Or.inl rfl) rfl ?_
  refine r_icmp_ge (t := 52) dX4_regionsAmong_11 rfl hx5 (k0.2.1 _ _) (fun c1 => ?_) (fun c2 => ?_)
  · have h3 := h.1 c1
    refine r_lload_n dX4_regionsAmong_52 rfl ?_
    exact r_lreturn dX4_regionsAmong_53 rfl ⟨k0, _, rfl, h3⟩
  · have h4 := h.2 c2
    refine r_iload dX4_regionsAmong_14 rfl ?_
    refine r_bipush dX4_regionsAmong_16 rfl ?_
    refine r_icmp_ge (t := 52) dX4_regionsAmong_18 rfl hx5 (r32c rfl) (fun c5 => ?_) (fun c6 => ?_)
    · have h7 := h4.1 c5
      refine r_lload_n dX4_regionsAmong_52 rfl ?_
      exact r_lreturn dX4_regionsAmong_53 rfl ⟨k0, _, rfl, h7⟩
    · have h8 := h4.2 c6
      refine r_aload_n dX4_regionsAmong_21 rfl ?_
      refine r_getP (a := 60) dX4_regionsAmong_22 kf_RX4_31 (zlt hn rfl) sh_53 rfl (k0.1 _ _ _ (zlt hn rfl) p_53_7) ?_
      refine r_iload dX4_regionsAmong_25 rfl ?_
      obtain ⟨h9, h10⟩ := h8
      refine r_laloadE dX4_regionsAmong_27 (zlt hn rfl) sh_60 h9.1 h9.2 rfl ?_
      refine r_lload_n dX4_regionsAmong_28 rfl ?_
      refine r_ldc2 dX4_regionsAmong_29 kc_RX4_111 ?_
      refine r_lxor dX4_regionsAmong_32 ?_
      refine r_land dX4_regionsAmong_33 ?_
      refine r_lconst (v := 0) dX4_regionsAmong_34 rfl ?_
      refine r_lcmp dX4_regionsAmong_35 ?_
      refine r_if_ne (t := 46) dX4_regionsAmong_36 rfl (r32_lcmp _ _)  (fun c11 => ?_) (fun c12 => ?_)
      · have h13 := h10.1 c11
        refine r_iinc dX4_regionsAmong_46 rfl rfl rfl ?_
        refine r_goto (t := 5) dX4_regionsAmong_49 rfl ?_
        obtain ⟨h14, h15⟩ := h13
        exact r_mask [true, true, false, true, false, true] rfl (h15 h14 k0)
      · have h16 := h10.2 c12
        refine r_lload_n dX4_regionsAmong_39 rfl ?_
        refine r_lconst (v := 1) dX4_regionsAmong_40 rfl ?_
        refine r_iload dX4_regionsAmong_41 rfl ?_
        refine r_lshl dX4_regionsAmong_43 ?_
        refine r_lor dX4_regionsAmong_44 ?_
        refine r_lstore_n dX4_regionsAmong_45 rfl rfl ?_
        refine r_iinc dX4_regionsAmong_46 rfl rfl rfl ?_
        refine r_goto (t := 5) dX4_regionsAmong_49 rfl ?_
        obtain ⟨h17, h18⟩ := h16
        exact r_mask [true, true, false, true, false, true] rfl (h18 h17 k0)
