/-! StoneRoomModel.liberty -/
theorem dX10_liberty_0 : decode M_X10_liberty.2.1 0 = .ok (.aload_n 0, 1) := by decide +kernel
theorem dX10_liberty_1 : decode M_X10_liberty.2.1 1 = .ok (.iload_n 1, 1) := by decide +kernel
theorem dX10_liberty_2 : decode M_X10_liberty.2.1 2 = .ok (.invokevirtual 281, 3) := by decide +kernel
theorem dX10_liberty_5 : decode M_X10_liberty.2.1 5 = .ok (.ifCond .ne 5, 3) := by decide +kernel
theorem dX10_liberty_8 : decode M_X10_liberty.2.1 8 = .ok (.iconst (-1), 1) := by decide +kernel
theorem dX10_liberty_9 : decode M_X10_liberty.2.1 9 = .ok (.ireturn, 1) := by decide +kernel
theorem dX10_liberty_10 : decode M_X10_liberty.2.1 10 = .ok (.aload_n 0, 1) := by decide +kernel
theorem dX10_liberty_11 : decode M_X10_liberty.2.1 11 = .ok (.iload_n 1, 1) := by decide +kernel
theorem dX10_liberty_12 : decode M_X10_liberty.2.1 12 = .ok (.invokevirtual 148, 3) := by decide +kernel
theorem dX10_liberty_15 : decode M_X10_liberty.2.1 15 = .ok (.istore_n 3, 1) := by decide +kernel
theorem dX10_liberty_16 : decode M_X10_liberty.2.1 16 = .ok (.iconst 0, 1) := by decide +kernel
theorem dX10_liberty_17 : decode M_X10_liberty.2.1 17 = .ok (.istore 4, 2) := by decide +kernel
theorem dX10_liberty_19 : decode M_X10_liberty.2.1 19 = .ok (.iconst 0, 1) := by decide +kernel
theorem dX10_liberty_20 : decode M_X10_liberty.2.1 20 = .ok (.istore 5, 2) := by decide +kernel
theorem dX10_liberty_22 : decode M_X10_liberty.2.1 22 = .ok (.iload 5, 2) := by decide +kernel
theorem dX10_liberty_24 : decode M_X10_liberty.2.1 24 = .ok (.aload_n 0, 1) := by decide +kernel
theorem dX10_liberty_25 : decode M_X10_liberty.2.1 25 = .ok (.getfield 139, 3) := by decide +kernel
theorem dX10_liberty_28 : decode M_X10_liberty.2.1 28 = .ok (.aload_n 0, 1) := by decide +kernel
theorem dX10_liberty_29 : decode M_X10_liberty.2.1 29 = .ok (.getfield 139, 3) := by decide +kernel
theorem dX10_liberty_32 : decode M_X10_liberty.2.1 32 = .ok (.imul, 1) := by decide +kernel
theorem dX10_liberty_33 : decode M_X10_liberty.2.1 33 = .ok (.if_icmp .ge 34, 3) := by decide +kernel
theorem dX10_liberty_36 : decode M_X10_liberty.2.1 36 = .ok (.aload_n 0, 1) := by decide +kernel
theorem dX10_liberty_37 : decode M_X10_liberty.2.1 37 = .ok (.getfield 53, 3) := by decide +kernel
theorem dX10_liberty_40 : decode M_X10_liberty.2.1 40 = .ok (.iload 5, 2) := by decide +kernel
theorem dX10_liberty_42 : decode M_X10_liberty.2.1 42 = .ok (.baload, 1) := by decide +kernel
theorem dX10_liberty_43 : decode M_X10_liberty.2.1 43 = .ok (.ifCond .ne 6, 3) := by decide +kernel
theorem dX10_liberty_46 : decode M_X10_liberty.2.1 46 = .ok (.goto 15, 3) := by decide +kernel
theorem dX10_liberty_49 : decode M_X10_liberty.2.1 49 = .ok (.iload 4, 2) := by decide +kernel
theorem dX10_liberty_51 : decode M_X10_liberty.2.1 51 = .ok (.iload_n 2, 1) := by decide +kernel
theorem dX10_liberty_52 : decode M_X10_liberty.2.1 52 = .ok (.if_icmp .ne 6, 3) := by decide +kernel
theorem dX10_liberty_55 : decode M_X10_liberty.2.1 55 = .ok (.iload 5, 2) := by decide +kernel
theorem dX10_liberty_57 : decode M_X10_liberty.2.1 57 = .ok (.ireturn, 1) := by decide +kernel
theorem dX10_liberty_58 : decode M_X10_liberty.2.1 58 = .ok (.iinc 4 1, 3) := by decide +kernel
theorem dX10_liberty_61 : decode M_X10_liberty.2.1 61 = .ok (.iinc 5 1, 3) := by decide +kernel
theorem dX10_liberty_64 : decode M_X10_liberty.2.1 64 = .ok (.goto (-42), 3) := by decide +kernel
theorem dX10_liberty_67 : decode M_X10_liberty.2.1 67 = .ok (.iconst (-1), 1) := by decide +kernel
theorem dX10_liberty_68 : decode M_X10_liberty.2.1 68 = .ok (.ireturn, 1) := by decide +kernel
def L_X10_liberty_22 (X : ZX) (d n : Nat) (P : Option Value → ZSto → Prop) (x2 : Int) (x4 : Int) (x5 : Int) (σ : ZSto) : Prop := R32 x2 → R32 x4 → R32 x5 → ZOk n σ → Zn X M_X10_liberty d n P 22 [some (.ref (zB X + 73)), none, some (iV x2), none, some (iV x4), some (iV x5)] [] σ
theorem w_X10_liberty {X : ZX} {d n : Nat} {P : Int → ZSto → Prop} {x1 : Int} {x2 : Int} {σ : ZSto} (hn : 104 ≤ n)  (hx1 : R32 x1) (hx2 : R32 x2)
    (h : ZkZ X M_X10_isStone d n [.ref (zB X + 73), iV x1] σ (fun v1 σ2 => (¬ v1 = 0 → ZkI X M_X10_flood d n [.ref (zB X + 73), iV x1] σ2 (fun v9 σ10 => L_X10_liberty_22 X d n (zpI P) x2 0 0 σ10)) ∧ (v1 = 0 → P ((-1)) σ2))) :
    ZkI X M_X10_liberty (d + 1) n [.ref (zB X + 73), iV x1, iV x2] σ P := by
  refine zk_of (ls := [some (.ref (zB X + 73)), some (iV x1), some (iV x2), none, none, none]) pl_RX10 (Nat.le_of_ble_eq_true rfl) rfl (fun k0 => ?_)
  unfold Zn
  refine r_aload_n dX10_liberty_0 rfl ?_
  refine r_iload_n dX10_liberty_1 rfl ?_
  refine n_callV (N := M_X10_isStone) (As := [iV x1]) (st := []) dX10_liberty_2 mk_X10_isStone km_RX10_281 kd_X10_isStone rfl (zlt hn rfl) sh_73 (q := (RX10, TX10, 52)) rfl rfl (zFits_rm d n n n (Nat.le_refl n)) (Nat.le_of_ble_eq_true rfl) rfl k0 h ?_
  rintro _ σ2 k3 ⟨v1, rfl, h4, h5⟩
  change Zm _ _ _ _ _ _ 5 _ [iV v1] _
  refine r_if_ne (t := 10) dX10_liberty_5 rfl (r32_z h4)  (fun c6 => ?_) (fun c7 => ?_)
  · have h8 := h5.1 c6
    refine r_aload_n dX10_liberty_10 rfl ?_
    refine r_iload_n dX10_liberty_11 rfl ?_
    refine n_callV (N := M_X10_flood) (As := [iV x1]) (st := []) dX10_liberty_12 mk_X10_flood km_RX10_148 kd_X10_flood rfl (zlt hn rfl) sh_73 (q := (RX10, TX10, 52)) rfl rfl (zFits_rm d n n n (Nat.le_refl n)) (Nat.le_of_ble_eq_true rfl) rfl k3 h8 ?_
    rintro _ σ10 k11 ⟨v9, rfl, h12, h13⟩
    change Zm _ _ _ _ _ _ 15 _ [iV v9] _
    refine r_istore_n dX10_liberty_15 rfl rfl ?_
    refine r_iconst dX10_liberty_16 ?_
    refine r_istore dX10_liberty_17 rfl rfl ?_
    refine r_iconst dX10_liberty_19 ?_
    refine r_istore dX10_liberty_20 rfl rfl ?_
    exact r_mask [true, false, true, false, true, true] rfl (h13 hx2 (r32c rfl) (r32c rfl) k11)
  · have h14 := h5.2 c7
    refine r_iconst dX10_liberty_8 ?_
    exact r_ireturn dX10_liberty_9 rfl ⟨k3, _, rfl, (r32c rfl), h14⟩
theorem b_X10_liberty_22 {X : ZX} {d n : Nat} {P : Int → ZSto → Prop} {x2 : Int} {x4 : Int} {x5 : Int} {σ : ZSto} (hn : 104 ≤ n) 
    (h : R32 ((gI σ 73 13) * (gI σ 73 13)) ∧ ((gI σ 73 13) * (gI σ 73 13) ≤ x5 → P ((-1)) σ) ∧ (¬ ((gI σ 73 13) * (gI σ 73 13) ≤ x5) → (0 ≤ x5 ∧ x5 < 81) ∧ (¬ gI σ 86 x5.toNat = 0 → (¬ x4 = x2 → R32 (x4 + 1) ∧ R32 (x5 + 1) ∧ L_X10_liberty_22 X d n (zpI P) x2 (x4 + 1) (x5 + 1) σ) ∧ (x4 = x2 → P x5 σ)) ∧ (gI σ 86 x5.toNat = 0 → R32 (x5 + 1) ∧ L_X10_liberty_22 X d n (zpI P) x2 x4 (x5 + 1) σ))) :
    L_X10_liberty_22 X d n (zpI P) x2 x4 x5 σ := by
  intro hx2 hx4 hx5 k0
  unfold Zn
  refine r_iload dX10_liberty_22 rfl ?_
  refine r_aload_n dX10_liberty_24 rfl ?_
  refine r_getI dX10_liberty_25 kf_RX10_139 (zlt hn rfl) sh_73 (Or.inl rfl) rfl ?_
  refine r_aload_n dX10_liberty_28 rfl ?_
  refine r_getI dX10_liberty_29 kf_RX10_139 (zlt hn rfl) sh_73 (Or.inl rfl) rfl ?_
  refine r_imul dX10_liberty_32 ?_
  obtain ⟨h1, h2⟩ := h
  refine r_icmp_ge (t := 67) dX10_liberty_33 rfl hx5 h1 (fun c3 => ?_) (fun c4 => ?_)
  · have h5 := h2.1 c3
    refine r_iconst dX10_liberty_67 ?_
    exact r_ireturn dX10_liberty_68 rfl ⟨k0, _, rfl, (r32c rfl), h5⟩
  · have h6 := h2.2 c4
    refine r_aload_n dX10_liberty_36 rfl ?_
    refine r_getP (a := 86) dX10_liberty_37 kf_RX10_53 (zlt hn rfl) sh_73 rfl (k0.1 _ _ _ (zlt hn rfl) p_73_16) ?_
    refine r_iload dX10_liberty_40 rfl ?_
    obtain ⟨h7, h8⟩ := h6
    refine r_zaloadE dX10_liberty_42 (zlt hn rfl) sh_86 h7.1 h7.2 rfl ?_
    refine r_if_ne (t := 49) dX10_liberty_43 rfl (k0.2.1 _ _)  (fun c9 => ?_) (fun c10 => ?_)
    · have h11 := h8.1 c9
      refine r_iload dX10_liberty_49 rfl ?_
      refine r_iload_n dX10_liberty_51 rfl ?_
      refine r_icmp_ne (t := 58) dX10_liberty_52 rfl hx4 hx2 (fun c12 => ?_) (fun c13 => ?_)
      · have h14 := h11.1 c12
        refine r_iinc dX10_liberty_58 rfl rfl rfl ?_
        refine r_iinc dX10_liberty_61 rfl rfl rfl ?_
        refine r_goto (t := 22) dX10_liberty_64 rfl ?_
        obtain ⟨h15, h16⟩ := h14
        obtain ⟨h17, h18⟩ := h16
        exact r_mask [true, false, true, false, true, true] rfl (h18 hx2 h15 h17 k0)
      · have h19 := h11.2 c13
        refine r_iload dX10_liberty_55 rfl ?_
        exact r_ireturn dX10_liberty_57 rfl ⟨k0, _, rfl, hx5, h19⟩
    · have h20 := h8.2 c10
      refine r_goto (t := 61) dX10_liberty_46 rfl ?_
      refine r_iinc dX10_liberty_61 rfl rfl rfl ?_
      refine r_goto (t := 22) dX10_liberty_64 rfl ?_
      obtain ⟨h21, h22⟩ := h20
      exact r_mask [true, false, true, false, true, true] rfl (h22 hx2 hx4 h21 k0)
/-! StoneRoomModel.regions -/
theorem dX10_regions_0 : decode M_X10_regions.2.1 0 = .ok (.iconst 0, 1) := by decide +kernel
theorem dX10_regions_1 : decode M_X10_regions.2.1 1 = .ok (.istore_n 2, 1) := by decide +kernel
theorem dX10_regions_2 : decode M_X10_regions.2.1 2 = .ok (.iload_n 2, 1) := by decide +kernel
theorem dX10_regions_3 : decode M_X10_regions.2.1 3 = .ok (.bipush 81, 2) := by decide +kernel
theorem dX10_regions_5 : decode M_X10_regions.2.1 5 = .ok (.if_icmp .ge 23, 3) := by decide +kernel
theorem dX10_regions_8 : decode M_X10_regions.2.1 8 = .ok (.aload_n 0, 1) := by decide +kernel
theorem dX10_regions_9 : decode M_X10_regions.2.1 9 = .ok (.getfield 77, 3) := by decide +kernel
theorem dX10_regions_12 : decode M_X10_regions.2.1 12 = .ok (.iload_n 2, 1) := by decide +kernel
theorem dX10_regions_13 : decode M_X10_regions.2.1 13 = .ok (.iconst (-1), 1) := by decide +kernel
theorem dX10_regions_14 : decode M_X10_regions.2.1 14 = .ok (.iastore, 1) := by decide +kernel
theorem dX10_regions_15 : decode M_X10_regions.2.1 15 = .ok (.aload_n 0, 1) := by decide +kernel
theorem dX10_regions_16 : decode M_X10_regions.2.1 16 = .ok (.getfield 80, 3) := by decide +kernel
theorem dX10_regions_19 : decode M_X10_regions.2.1 19 = .ok (.iload_n 2, 1) := by decide +kernel
theorem dX10_regions_20 : decode M_X10_regions.2.1 20 = .ok (.iconst (-1), 1) := by decide +kernel
theorem dX10_regions_21 : decode M_X10_regions.2.1 21 = .ok (.iastore, 1) := by decide +kernel
theorem dX10_regions_22 : decode M_X10_regions.2.1 22 = .ok (.iinc 2 1, 3) := by decide +kernel
theorem dX10_regions_25 : decode M_X10_regions.2.1 25 = .ok (.goto (-23), 3) := by decide +kernel
theorem dX10_regions_28 : decode M_X10_regions.2.1 28 = .ok (.iconst 0, 1) := by decide +kernel
theorem dX10_regions_29 : decode M_X10_regions.2.1 29 = .ok (.istore_n 2, 1) := by decide +kernel
theorem dX10_regions_30 : decode M_X10_regions.2.1 30 = .ok (.iload_n 2, 1) := by decide +kernel
theorem dX10_regions_31 : decode M_X10_regions.2.1 31 = .ok (.aload_n 0, 1) := by decide +kernel
theorem dX10_regions_32 : decode M_X10_regions.2.1 32 = .ok (.getfield 139, 3) := by decide +kernel
theorem dX10_regions_35 : decode M_X10_regions.2.1 35 = .ok (.aload_n 0, 1) := by decide +kernel
theorem dX10_regions_36 : decode M_X10_regions.2.1 36 = .ok (.getfield 139, 3) := by decide +kernel
theorem dX10_regions_39 : decode M_X10_regions.2.1 39 = .ok (.imul, 1) := by decide +kernel
theorem dX10_regions_40 : decode M_X10_regions.2.1 40 = .ok (.if_icmp .ge 204, 3) := by decide +kernel
theorem dX10_regions_43 : decode M_X10_regions.2.1 43 = .ok (.aload_n 0, 1) := by decide +kernel
theorem dX10_regions_44 : decode M_X10_regions.2.1 44 = .ok (.getfield 46, 3) := by decide +kernel
theorem dX10_regions_47 : decode M_X10_regions.2.1 47 = .ok (.iload_n 2, 1) := by decide +kernel
theorem dX10_regions_48 : decode M_X10_regions.2.1 48 = .ok (.baload, 1) := by decide +kernel
theorem dX10_regions_49 : decode M_X10_regions.2.1 49 = .ok (.iload_n 1, 1) := by decide +kernel
theorem dX10_regions_50 : decode M_X10_regions.2.1 50 = .ok (.if_icmp .ne 59, 3) := by decide +kernel
theorem dX10_regions_53 : decode M_X10_regions.2.1 53 = .ok (.aload_n 0, 1) := by decide +kernel
theorem dX10_regions_54 : decode M_X10_regions.2.1 54 = .ok (.getfield 80, 3) := by decide +kernel
theorem dX10_regions_57 : decode M_X10_regions.2.1 57 = .ok (.iload_n 2, 1) := by decide +kernel
theorem dX10_regions_58 : decode M_X10_regions.2.1 58 = .ok (.iaload, 1) := by decide +kernel
theorem dX10_regions_59 : decode M_X10_regions.2.1 59 = .ok (.ifCond .ge 50, 3) := by decide +kernel
theorem dX10_regions_62 : decode M_X10_regions.2.1 62 = .ok (.aload_n 0, 1) := by decide +kernel
theorem dX10_regions_63 : decode M_X10_regions.2.1 63 = .ok (.iload_n 2, 1) := by decide +kernel
theorem dX10_regions_64 : decode M_X10_regions.2.1 64 = .ok (.invokevirtual 148, 3) := by decide +kernel
theorem dX10_regions_67 : decode M_X10_regions.2.1 67 = .ok (.istore_n 3, 1) := by decide +kernel
theorem dX10_regions_68 : decode M_X10_regions.2.1 68 = .ok (.iconst 0, 1) := by decide +kernel
theorem dX10_regions_69 : decode M_X10_regions.2.1 69 = .ok (.istore 4, 2) := by decide +kernel
theorem dX10_regions_71 : decode M_X10_regions.2.1 71 = .ok (.iload 4, 2) := by decide +kernel
theorem dX10_regions_73 : decode M_X10_regions.2.1 73 = .ok (.aload_n 0, 1) := by decide +kernel
theorem dX10_regions_74 : decode M_X10_regions.2.1 74 = .ok (.getfield 139, 3) := by decide +kernel
theorem dX10_regions_77 : decode M_X10_regions.2.1 77 = .ok (.aload_n 0, 1) := by decide +kernel
theorem dX10_regions_78 : decode M_X10_regions.2.1 78 = .ok (.getfield 139, 3) := by decide +kernel
theorem dX10_regions_81 : decode M_X10_regions.2.1 81 = .ok (.imul, 1) := by decide +kernel
theorem dX10_regions_82 : decode M_X10_regions.2.1 82 = .ok (.if_icmp .ge 27, 3) := by decide +kernel
theorem dX10_regions_85 : decode M_X10_regions.2.1 85 = .ok (.aload_n 0, 1) := by decide +kernel
theorem dX10_regions_86 : decode M_X10_regions.2.1 86 = .ok (.getfield 49, 3) := by decide +kernel
theorem dX10_regions_89 : decode M_X10_regions.2.1 89 = .ok (.iload 4, 2) := by decide +kernel
theorem dX10_regions_91 : decode M_X10_regions.2.1 91 = .ok (.baload, 1) := by decide +kernel
theorem dX10_regions_92 : decode M_X10_regions.2.1 92 = .ok (.ifCond .eq 11, 3) := by decide +kernel
theorem dX10_regions_95 : decode M_X10_regions.2.1 95 = .ok (.aload_n 0, 1) := by decide +kernel
theorem dX10_regions_96 : decode M_X10_regions.2.1 96 = .ok (.getfield 80, 3) := by decide +kernel
theorem dX10_regions_99 : decode M_X10_regions.2.1 99 = .ok (.iload 4, 2) := by decide +kernel
theorem dX10_regions_101 : decode M_X10_regions.2.1 101 = .ok (.iload_n 2, 1) := by decide +kernel
theorem dX10_regions_102 : decode M_X10_regions.2.1 102 = .ok (.iastore, 1) := by decide +kernel
theorem dX10_regions_103 : decode M_X10_regions.2.1 103 = .ok (.iinc 4 1, 3) := by decide +kernel
theorem dX10_regions_106 : decode M_X10_regions.2.1 106 = .ok (.goto (-35), 3) := by decide +kernel
theorem dX10_regions_109 : decode M_X10_regions.2.1 109 = .ok (.aload_n 0, 1) := by decide +kernel
theorem dX10_regions_110 : decode M_X10_regions.2.1 110 = .ok (.getfield 46, 3) := by decide +kernel
theorem dX10_regions_113 : decode M_X10_regions.2.1 113 = .ok (.iload_n 2, 1) := by decide +kernel
theorem dX10_regions_114 : decode M_X10_regions.2.1 114 = .ok (.baload, 1) := by decide +kernel
theorem dX10_regions_115 : decode M_X10_regions.2.1 115 = .ok (.iload_n 1, 1) := by decide +kernel
theorem dX10_regions_116 : decode M_X10_regions.2.1 116 = .ok (.if_icmp .eq 122, 3) := by decide +kernel
theorem dX10_regions_119 : decode M_X10_regions.2.1 119 = .ok (.aload_n 0, 1) := by decide +kernel
theorem dX10_regions_120 : decode M_X10_regions.2.1 120 = .ok (.getfield 77, 3) := by decide +kernel
theorem dX10_regions_123 : decode M_X10_regions.2.1 123 = .ok (.iload_n 2, 1) := by decide +kernel
theorem dX10_regions_124 : decode M_X10_regions.2.1 124 = .ok (.iaload, 1) := by decide +kernel
theorem dX10_regions_125 : decode M_X10_regions.2.1 125 = .ok (.ifCond .lt 6, 3) := by decide +kernel
theorem dX10_regions_128 : decode M_X10_regions.2.1 128 = .ok (.goto 110, 3) := by decide +kernel
theorem dX10_regions_131 : decode M_X10_regions.2.1 131 = .ok (.iconst 1, 1) := by decide +kernel
theorem dX10_regions_132 : decode M_X10_regions.2.1 132 = .ok (.istore_n 3, 1) := by decide +kernel
theorem dX10_regions_133 : decode M_X10_regions.2.1 133 = .ok (.aload_n 0, 1) := by decide +kernel
theorem dX10_regions_134 : decode M_X10_regions.2.1 134 = .ok (.getfield 56, 3) := by decide +kernel
theorem dX10_regions_137 : decode M_X10_regions.2.1 137 = .ok (.iconst 0, 1) := by decide +kernel
theorem dX10_regions_138 : decode M_X10_regions.2.1 138 = .ok (.iload_n 2, 1) := by decide +kernel
theorem dX10_regions_139 : decode M_X10_regions.2.1 139 = .ok (.iastore, 1) := by decide +kernel
theorem dX10_regions_140 : decode M_X10_regions.2.1 140 = .ok (.aload_n 0, 1) := by decide +kernel
theorem dX10_regions_141 : decode M_X10_regions.2.1 141 = .ok (.getfield 77, 3) := by decide +kernel
theorem dX10_regions_144 : decode M_X10_regions.2.1 144 = .ok (.iload_n 2, 1) := by decide +kernel
theorem dX10_regions_145 : decode M_X10_regions.2.1 145 = .ok (.iload_n 2, 1) := by decide +kernel
theorem dX10_regions_146 : decode M_X10_regions.2.1 146 = .ok (.iastore, 1) := by decide +kernel
theorem dX10_regions_147 : decode M_X10_regions.2.1 147 = .ok (.iload_n 3, 1) := by decide +kernel
theorem dX10_regions_148 : decode M_X10_regions.2.1 148 = .ok (.ifCond .le 90, 3) := by decide +kernel
theorem dX10_regions_151 : decode M_X10_regions.2.1 151 = .ok (.iinc 3 (-1), 3) := by decide +kernel
theorem dX10_regions_154 : decode M_X10_regions.2.1 154 = .ok (.aload_n 0, 1) := by decide +kernel
theorem dX10_regions_155 : decode M_X10_regions.2.1 155 = .ok (.getfield 56, 3) := by decide +kernel
theorem dX10_regions_158 : decode M_X10_regions.2.1 158 = .ok (.iload_n 3, 1) := by decide +kernel
theorem dX10_regions_159 : decode M_X10_regions.2.1 159 = .ok (.iaload, 1) := by decide +kernel
theorem dX10_regions_160 : decode M_X10_regions.2.1 160 = .ok (.istore 4, 2) := by decide +kernel
theorem dX10_regions_162 : decode M_X10_regions.2.1 162 = .ok (.iconst 0, 1) := by decide +kernel
theorem dX10_regions_163 : decode M_X10_regions.2.1 163 = .ok (.istore 5, 2) := by decide +kernel
theorem dX10_regions_165 : decode M_X10_regions.2.1 165 = .ok (.iload 5, 2) := by decide +kernel
theorem dX10_regions_167 : decode M_X10_regions.2.1 167 = .ok (.iconst 4, 1) := by decide +kernel
theorem dX10_regions_168 : decode M_X10_regions.2.1 168 = .ok (.if_icmp .ge 67, 3) := by decide +kernel
theorem dX10_regions_171 : decode M_X10_regions.2.1 171 = .ok (.aload_n 0, 1) := by decide +kernel
theorem dX10_regions_172 : decode M_X10_regions.2.1 172 = .ok (.iload 4, 2) := by decide +kernel
theorem dX10_regions_174 : decode M_X10_regions.2.1 174 = .ok (.iload 5, 2) := by decide +kernel
theorem dX10_regions_176 : decode M_X10_regions.2.1 176 = .ok (.invokevirtual 142, 3) := by decide +kernel
theorem dX10_regions_179 : decode M_X10_regions.2.1 179 = .ok (.istore 6, 2) := by decide +kernel
theorem dX10_regions_181 : decode M_X10_regions.2.1 181 = .ok (.iload 6, 2) := by decide +kernel
theorem dX10_regions_183 : decode M_X10_regions.2.1 183 = .ok (.ifCond .lt 46, 3) := by decide +kernel
theorem dX10_regions_186 : decode M_X10_regions.2.1 186 = .ok (.aload_n 0, 1) := by decide +kernel
theorem dX10_regions_187 : decode M_X10_regions.2.1 187 = .ok (.getfield 46, 3) := by decide +kernel
theorem dX10_regions_190 : decode M_X10_regions.2.1 190 = .ok (.iload 6, 2) := by decide +kernel
theorem dX10_regions_192 : decode M_X10_regions.2.1 192 = .ok (.baload, 1) := by decide +kernel
theorem dX10_regions_193 : decode M_X10_regions.2.1 193 = .ok (.iload_n 1, 1) := by decide +kernel
theorem dX10_regions_194 : decode M_X10_regions.2.1 194 = .ok (.if_icmp .eq 35, 3) := by decide +kernel
theorem dX10_regions_197 : decode M_X10_regions.2.1 197 = .ok (.aload_n 0, 1) := by decide +kernel
theorem dX10_regions_198 : decode M_X10_regions.2.1 198 = .ok (.getfield 77, 3) := by decide +kernel
theorem dX10_regions_201 : decode M_X10_regions.2.1 201 = .ok (.iload 6, 2) := by decide +kernel
theorem dX10_regions_203 : decode M_X10_regions.2.1 203 = .ok (.iaload, 1) := by decide +kernel
theorem dX10_regions_204 : decode M_X10_regions.2.1 204 = .ok (.ifCond .lt 6, 3) := by decide +kernel
theorem dX10_regions_207 : decode M_X10_regions.2.1 207 = .ok (.goto 22, 3) := by decide +kernel
theorem dX10_regions_210 : decode M_X10_regions.2.1 210 = .ok (.aload_n 0, 1) := by decide +kernel
theorem dX10_regions_211 : decode M_X10_regions.2.1 211 = .ok (.getfield 77, 3) := by decide +kernel
theorem dX10_regions_214 : decode M_X10_regions.2.1 214 = .ok (.iload 6, 2) := by decide +kernel
theorem dX10_regions_216 : decode M_X10_regions.2.1 216 = .ok (.iload_n 2, 1) := by decide +kernel
theorem dX10_regions_217 : decode M_X10_regions.2.1 217 = .ok (.iastore, 1) := by decide +kernel
theorem dX10_regions_218 : decode M_X10_regions.2.1 218 = .ok (.aload_n 0, 1) := by decide +kernel
theorem dX10_regions_219 : decode M_X10_regions.2.1 219 = .ok (.getfield 56, 3) := by decide +kernel
theorem dX10_regions_222 : decode M_X10_regions.2.1 222 = .ok (.iload_n 3, 1) := by decide +kernel
theorem dX10_regions_223 : decode M_X10_regions.2.1 223 = .ok (.iload 6, 2) := by decide +kernel
theorem dX10_regions_225 : decode M_X10_regions.2.1 225 = .ok (.iastore, 1) := by decide +kernel
theorem dX10_regions_226 : decode M_X10_regions.2.1 226 = .ok (.iinc 3 1, 3) := by decide +kernel
theorem dX10_regions_229 : decode M_X10_regions.2.1 229 = .ok (.iinc 5 1, 3) := by decide +kernel
theorem dX10_regions_232 : decode M_X10_regions.2.1 232 = .ok (.goto (-67), 3) := by decide +kernel
theorem dX10_regions_235 : decode M_X10_regions.2.1 235 = .ok (.goto (-88), 3) := by decide +kernel
theorem dX10_regions_238 : decode M_X10_regions.2.1 238 = .ok (.iinc 2 1, 3) := by decide +kernel
theorem dX10_regions_241 : decode M_X10_regions.2.1 241 = .ok (.goto (-211), 3) := by decide +kernel
theorem dX10_regions_244 : decode M_X10_regions.2.1 244 = .ok (.return_, 1) := by decide +kernel
def L_X10_regions_2 (X : ZX) (d n : Nat) (P : Option Value → ZSto → Prop) (x1 : Int) (x2 : Int) (σ : ZSto) : Prop := R32 x1 → R32 x2 → ZOk n σ → Zn X M_X10_regions d n P 2 [some (.ref (zB X + 73)), some (iV x1), some (iV x2), none, none, none, none] [] σ
def L_X10_regions_30 (X : ZX) (d n : Nat) (P : Option Value → ZSto → Prop) (x1 : Int) (x2 : Int) (σ : ZSto) : Prop := R32 x1 → R32 x2 → ZOk n σ → Zn X M_X10_regions d n P 30 [some (.ref (zB X + 73)), some (iV x1), some (iV x2), none, none, none, none] [] σ
def L_X10_regions_71 (X : ZX) (d n : Nat) (P : Option Value → ZSto → Prop) (x1 : Int) (x2 : Int) (x4 : Int) (σ : ZSto) : Prop := R32 x1 → R32 x2 → R32 x4 → ZOk n σ → Zn X M_X10_regions d n P 71 [some (.ref (zB X + 73)), some (iV x1), some (iV x2), none, some (iV x4), none, none] [] σ
def L_X10_regions_109 (X : ZX) (d n : Nat) (P : Option Value → ZSto → Prop) (x1 : Int) (x2 : Int) (σ : ZSto) : Prop := R32 x1 → R32 x2 → ZOk n σ → Zn X M_X10_regions d n P 109 [some (.ref (zB X + 73)), some (iV x1), some (iV x2), none, none, none, none] [] σ
def L_X10_regions_147 (X : ZX) (d n : Nat) (P : Option Value → ZSto → Prop) (x1 : Int) (x2 : Int) (x3 : Int) (σ : ZSto) : Prop := R32 x1 → R32 x2 → R32 x3 → ZOk n σ → Zn X M_X10_regions d n P 147 [some (.ref (zB X + 73)), some (iV x1), some (iV x2), some (iV x3), none, none, none] [] σ
def L_X10_regions_165 (X : ZX) (d n : Nat) (P : Option Value → ZSto → Prop) (x1 : Int) (x2 : Int) (x3 : Int) (x4 : Int) (x5 : Int) (σ : ZSto) : Prop := R32 x1 → R32 x2 → R32 x3 → R32 x4 → R32 x5 → ZOk n σ → Zn X M_X10_regions d n P 165 [some (.ref (zB X + 73)), some (iV x1), some (iV x2), some (iV x3), some (iV x4), some (iV x5), none] [] σ
theorem w_X10_regions {X : ZX} {d n : Nat} {P : ZSto → Prop} {x1 : Int} {σ : ZSto} (hn : 104 ≤ n)  (hx1 : R32 x1)
    (h : L_X10_regions_2 X d n (zpV P) x1 0 σ) :
    ZkV X M_X10_regions (d + 1) n [.ref (zB X + 73), iV x1] σ P := by
  refine zk_of (ls := [some (.ref (zB X + 73)), some (iV x1), none, none, none, none, none]) pl_RX10 (Nat.le_of_ble_eq_true rfl) rfl (fun k0 => ?_)
  unfold Zn
  refine r_iconst dX10_regions_0 ?_
  refine r_istore_n dX10_regions_1 rfl rfl ?_
  exact r_mask [true, true, true, false, false, false, false] rfl (h hx1 (r32c rfl) k0)
theorem b_X10_regions_2 {X : ZX} {d n : Nat} {P : ZSto → Prop} {x1 : Int} {x2 : Int} {σ : ZSto} (hn : 104 ≤ n) 
    (h : (81 ≤ x2 → L_X10_regions_30 X d n (zpV P) x1 0 σ) ∧ (¬ (81 ≤ x2) → (0 ≤ x2 ∧ x2 < 81) ∧ R32 (x2 + 1) ∧ L_X10_regions_2 X d n (zpV P) x1 (x2 + 1) (sI (sI σ 93 x2.toNat ((-1))) 94 x2.toNat ((-1))))) :
    L_X10_regions_2 X d n (zpV P) x1 x2 σ := by
  intro hx1 hx2 k0
  unfold Zn
  refine r_iload_n dX10_regions_2 rfl ?_
  refine r_bipush dX10_regions_3 rfl ?_
  refine r_icmp_ge (t := 28) dX10_regions_5 rfl hx2 (r32c rfl) (fun c1 => ?_) (fun c2 => ?_)
  · have h3 := h.1 c1
    refine r_iconst dX10_regions_28 ?_
    refine r_istore_n dX10_regions_29 rfl rfl ?_
    exact r_mask [true, true, true, false, false, false, false] rfl (h3 hx1 (r32c rfl) k0)
  · have h4 := h.2 c2
    refine r_aload_n dX10_regions_8 rfl ?_
    refine r_getP (a := 93) dX10_regions_9 kf_RX10_77 (zlt hn rfl) sh_73 rfl (k0.1 _ _ _ (zlt hn rfl) p_73_34) ?_
    refine r_iload_n dX10_regions_12 rfl ?_
    refine r_iconst dX10_regions_13 ?_
    obtain ⟨h5, h6⟩ := h4
    refine r_iastore dX10_regions_14 (zlt hn rfl) sh_93 h5.1 h5.2 ?_
    have k7 := zok_i (i := x2.toNat) (x := (-1)) k0 sh_93 (r32c rfl)
    refine r_aload_n dX10_regions_15 rfl ?_
    refine r_getP (a := 94) dX10_regions_16 kf_RX10_80 (zlt hn rfl) sh_73 rfl (k7.1 _ _ _ (zlt hn rfl) p_73_35) ?_
    refine r_iload_n dX10_regions_19 rfl ?_
    refine r_iconst dX10_regions_20 ?_
    refine r_iastore dX10_regions_21 (zlt hn rfl) sh_94 h5.1 h5.2 ?_
    have k8 := zok_i (i := x2.toNat) (x := (-1)) k7 sh_94 (r32c rfl)
    refine r_iinc dX10_regions_22 rfl rfl rfl ?_
    refine r_goto (t := 2) dX10_regions_25 rfl ?_
    obtain ⟨h9, h10⟩ := h6
    exact r_mask [true, true, true, false, false, false, false] rfl (h10 hx1 h9 k8)
theorem b_X10_regions_30 {X : ZX} {d n : Nat} {P : ZSto → Prop} {x1 : Int} {x2 : Int} {σ : ZSto} (hn : 104 ≤ n) 
    (h : R32 ((gI σ 73 13) * (gI σ 73 13)) ∧ ((gI σ 73 13) * (gI σ 73 13) ≤ x2 → P σ) ∧ (¬ ((gI σ 73 13) * (gI σ 73 13) ≤ x2) → (0 ≤ x2 ∧ x2 < 81) ∧ (¬ gI σ 84 x2.toNat = x1 → L_X10_regions_109 X d n (zpV P) x1 x2 σ) ∧ (gI σ 84 x2.toNat = x1 → (0 ≤ gI σ 94 x2.toNat → L_X10_regions_109 X d n (zpV P) x1 x2 σ) ∧ (¬ (0 ≤ gI σ 94 x2.toNat) → ZkI X M_X10_flood d n [.ref (zB X + 73), iV x2] σ (fun v17 σ18 => L_X10_regions_71 X d n (zpV P) x1 x2 0 σ18))))) :
    L_X10_regions_30 X d n (zpV P) x1 x2 σ := by
  intro hx1 hx2 k0
  unfold Zn
  refine r_iload_n dX10_regions_30 rfl ?_
  refine r_aload_n dX10_regions_31 rfl ?_
  refine r_getI dX10_regions_32 kf_RX10_139 (zlt hn rfl) sh_73 (Or.inl rfl) rfl ?_
  refine r_aload_n dX10_regions_35 rfl ?_
  refine r_getI dX10_regions_36 kf_RX10_139 (zlt hn rfl) sh_73 (Or.inl rfl) rfl ?_
  refine r_imul dX10_regions_39 ?_
  obtain ⟨h1, h2⟩ := h
  refine r_icmp_ge (t := 244) dX10_regions_40 rfl hx2 h1 (fun c3 => ?_) (fun c4 => ?_)
  · have h5 := h2.1 c3
    exact r_return dX10_regions_244 rfl ⟨k0, rfl, h5⟩
  · have h6 := h2.2 c4
    refine r_aload_n dX10_regions_43 rfl ?_
    refine r_getP (a := 84) dX10_regions_44 kf_RX10_46 (zlt hn rfl) sh_73 rfl (k0.1 _ _ _ (zlt hn rfl) p_73_14) ?_
    refine r_iload_n dX10_regions_47 rfl ?_
    obtain ⟨h7, h8⟩ := h6
    refine r_baloadE dX10_regions_48 (zlt hn rfl) sh_84 h7.1 h7.2 rfl ?_
    refine r_iload_n dX10_regions_49 rfl ?_
    refine r_icmp_ne (t := 109) dX10_regions_50 rfl (k0.2.1 _ _) hx1 (fun c9 => ?_) (fun c10 => ?_)
    · have h11 := h8.1 c9
      exact r_mask [true, true, true, false, false, false, false] rfl (h11 hx1 hx2 k0)
    · have h12 := h8.2 c10
      refine r_aload_n dX10_regions_53 rfl ?_
      refine r_getP (a := 94) dX10_regions_54 kf_RX10_80 (zlt hn rfl) sh_73 rfl (k0.1 _ _ _ (zlt hn rfl) p_73_35) ?_
      refine r_iload_n dX10_regions_57 rfl ?_
      refine r_ialoadE dX10_regions_58 (zlt hn rfl) sh_94 h7.1 h7.2 rfl ?_
      refine r_if_ge (t := 109) dX10_regions_59 rfl (k0.2.1 _ _)  (fun c13 => ?_) (fun c14 => ?_)
      · have h15 := h12.1 c13
        exact r_mask [true, true, true, false, false, false, false] rfl (h15 hx1 hx2 k0)
      · have h16 := h12.2 c14
        refine r_aload_n dX10_regions_62 rfl ?_
        refine r_iload_n dX10_regions_63 rfl ?_
        refine n_callV (N := M_X10_flood) (As := [iV x2]) (st := []) dX10_regions_64 mk_X10_flood km_RX10_148 kd_X10_flood rfl (zlt hn rfl) sh_73 (q := (RX10, TX10, 52)) rfl rfl (zFits_rm d n n n (Nat.le_refl n)) (Nat.le_of_ble_eq_true rfl) rfl k0 h16 ?_
        rintro _ σ18 k19 ⟨v17, rfl, h20, h21⟩
        change Zm _ _ _ _ _ _ 67 _ [iV v17] _
        refine r_istore_n dX10_regions_67 rfl rfl ?_
        refine r_iconst dX10_regions_68 ?_
        refine r_istore dX10_regions_69 rfl rfl ?_
        exact r_mask [true, true, true, false, true, false, false] rfl (h21 hx1 hx2 (r32c rfl) k19)
theorem b_X10_regions_71 {X : ZX} {d n : Nat} {P : ZSto → Prop} {x1 : Int} {x2 : Int} {x4 : Int} {σ : ZSto} (hn : 104 ≤ n) 
    (h : R32 ((gI σ 73 13) * (gI σ 73 13)) ∧ ((gI σ 73 13) * (gI σ 73 13) ≤ x4 → L_X10_regions_109 X d n (zpV P) x1 x2 σ) ∧ (¬ ((gI σ 73 13) * (gI σ 73 13) ≤ x4) → (0 ≤ x4 ∧ x4 < 81) ∧ (gI σ 85 x4.toNat = 0 → R32 (x4 + 1) ∧ L_X10_regions_71 X d n (zpV P) x1 x2 (x4 + 1) σ) ∧ (¬ (gI σ 85 x4.toNat = 0) → R32 (x4 + 1) ∧ L_X10_regions_71 X d n (zpV P) x1 x2 (x4 + 1) (sI σ 94 x4.toNat x2)))) :
    L_X10_regions_71 X d n (zpV P) x1 x2 x4 σ := by
  intro hx1 hx2 hx4 k0
  unfold Zn
  refine r_iload dX10_regions_71 rfl ?_
  refine r_aload_n dX10_regions_73 rfl ?_
  refine r_getI dX10_regions_74 kf_RX10_139 (zlt hn rfl) sh_73 (Or.inl rfl) rfl ?_
  refine r_aload_n dX10_regions_77 rfl ?_
  refine r_getI dX10_regions_78 kf_RX10_139 (zlt hn rfl) sh_73 (Or.inl rfl) rfl ?_
  refine r_imul dX10_regions_81 ?_
  obtain ⟨h1, h2⟩ := h
  refine r_icmp_ge (t := 109) dX10_regions_82 rfl hx4 h1 (fun c3 => ?_) (fun c4 => ?_)
  · have h5 := h2.1 c3
    exact r_mask [true, true, true, false, false, false, false] rfl (h5 hx1 hx2 k0)
  · have h6 := h2.2 c4
    refine r_aload_n dX10_regions_85 rfl ?_
    refine r_getP (a := 85) dX10_regions_86 kf_RX10_49 (zlt hn rfl) sh_73 rfl (k0.1 _ _ _ (zlt hn rfl) p_73_15) ?_
    refine r_iload dX10_regions_89 rfl ?_
    obtain ⟨h7, h8⟩ := h6
    refine r_zaloadE dX10_regions_91 (zlt hn rfl) sh_85 h7.1 h7.2 rfl ?_
    refine r_if_eq (t := 103) dX10_regions_92 rfl (k0.2.1 _ _)  (fun c9 => ?_) (fun c10 => ?_)
    · have h11 := h8.1 c9
      refine r_iinc dX10_regions_103 rfl rfl rfl ?_
      refine r_goto (t := 71) dX10_regions_106 rfl ?_
      obtain ⟨h12, h13⟩ := h11
      exact r_mask [true, true, true, false, true, false, false] rfl (h13 hx1 hx2 h12 k0)
    · have h14 := h8.2 c10
      refine r_aload_n dX10_regions_95 rfl ?_
      refine r_getP (a := 94) dX10_regions_96 kf_RX10_80 (zlt hn rfl) sh_73 rfl (k0.1 _ _ _ (zlt hn rfl) p_73_35) ?_
      refine r_iload dX10_regions_99 rfl ?_
      refine r_iload_n dX10_regions_101 rfl ?_
      refine r_iastore dX10_regions_102 (zlt hn rfl) sh_94 h7.1 h7.2 ?_
      have k15 := zok_i (i := x4.toNat) (x := x2) k0 sh_94 hx2
      refine r_iinc dX10_regions_103 rfl rfl rfl ?_
      refine r_goto (t := 71) dX10_regions_106 rfl ?_
      obtain ⟨h16, h17⟩ := h14
      exact r_mask [true, true, true, false, true, false, false] rfl (h17 hx1 hx2 h16 k15)
theorem b_X10_regions_109 {X : ZX} {d n : Nat} {P : ZSto → Prop} {x1 : Int} {x2 : Int} {σ : ZSto} (hn : 104 ≤ n) 
    (h : (0 ≤ x2 ∧ x2 < 81) ∧ (gI σ 84 x2.toNat = x1 → R32 (x2 + 1) ∧ L_X10_regions_30 X d n (zpV P) x1 (x2 + 1) σ) ∧ (¬ (gI σ 84 x2.toNat = x1) → (gI σ 93 x2.toNat < 0 → L_X10_regions_147 X d n (zpV P) x1 x2 1 (sI (sI σ 87 0 x2) 93 x2.toNat x2)) ∧ (¬ (gI σ 93 x2.toNat < 0) → R32 (x2 + 1) ∧ L_X10_regions_30 X d n (zpV P) x1 (x2 + 1) σ))) :
    L_X10_regions_109 X d n (zpV P) x1 x2 σ := by
  intro hx1 hx2 k0
  unfold Zn
  refine r_aload_n dX10_regions_109 rfl ?_
  refine r_getP (a := 84) dX10_regions_110 kf_RX10_46 (zlt hn rfl) sh_73 rfl (k0.1 _ _ _ (zlt hn rfl) p_73_14) ?_
  refine r_iload_n dX10_regions_113 rfl ?_
  obtain ⟨h1, h2⟩ := h
  refine r_baloadE dX10_regions_114 (zlt hn rfl) sh_84 h1.1 h1.2 rfl ?_
  refine r_iload_n dX10_regions_115 rfl ?_
  refine r_icmp_eq (t := 238) dX10_regions_116 rfl (k0.2.1 _ _) hx1 (fun c3 => ?_) (fun c4 => ?_)
  · have h5 := h2.1 c3
    refine r_iinc dX10_regions_238 rfl rfl rfl ?_
    refine r_goto (t := 30) dX10_regions_241 rfl ?_
    obtain ⟨h6, h7⟩ := h5
    exact r_mask [true, true, true, false, false, false, false] rfl (h7 hx1 h6 k0)
  · have h8 := h2.2 c4
    refine r_aload_n dX10_regions_119 rfl ?_
    refine r_getP (a := 93) dX10_regions_120 kf_RX10_77 (zlt hn rfl) sh_73 rfl (k0.1 _ _ _ (zlt hn rfl) p_73_34) ?_
    refine r_iload_n dX10_regions_123 rfl ?_
    refine r_ialoadE dX10_regions_124 (zlt hn rfl) sh_93 h1.1 h1.2 rfl ?_
    refine r_if_lt (t := 131) dX10_regions_125 rfl (k0.2.1 _ _)  (fun c9 => ?_) (fun c10 => ?_)
    · have h11 := h8.1 c9
      refine r_iconst dX10_regions_131 ?_
      refine r_istore_n dX10_regions_132 rfl rfl ?_
      refine r_aload_n dX10_regions_133 rfl ?_
      refine r_getP (a := 87) dX10_regions_134 kf_RX10_56 (zlt hn rfl) sh_73 rfl (k0.1 _ _ _ (zlt hn rfl) p_73_17) ?_
      refine r_iconst dX10_regions_137 ?_
      refine r_iload_n dX10_regions_138 rfl ?_
      refine r_iastore dX10_regions_139 (zlt hn rfl) sh_87 (by decide) (by decide) ?_
      have k12 := zok_i (i := 0) (x := x2) k0 sh_87 hx2
      refine r_aload_n dX10_regions_140 rfl ?_
      refine r_getP (a := 93) dX10_regions_141 kf_RX10_77 (zlt hn rfl) sh_73 rfl (k12.1 _ _ _ (zlt hn rfl) p_73_34) ?_
      refine r_iload_n dX10_regions_144 rfl ?_
      refine r_iload_n dX10_regions_145 rfl ?_
      refine r_iastore dX10_regions_146 (zlt hn rfl) sh_93 h1.1 h1.2 ?_
      have k13 := zok_i (i := x2.toNat) (x := x2) k12 sh_93 hx2
      exact r_mask [true, true, true, true, false, false, false] rfl (h11 hx1 hx2 (r32c rfl) k13)
    · have h14 := h8.2 c10
      refine r_goto (t := 238) dX10_regions_128 rfl ?_
      refine r_iinc dX10_regions_238 rfl rfl rfl ?_
      refine r_goto (t := 30) dX10_regions_241 rfl ?_
      obtain ⟨h15, h16⟩ := h14
      exact r_mask [true, true, true, false, false, false, false] rfl (h16 hx1 h15 k0)
theorem b_X10_regions_147 {X : ZX} {d n : Nat} {P : ZSto → Prop} {x1 : Int} {x2 : Int} {x3 : Int} {σ : ZSto} (hn : 104 ≤ n) 
    (h : (x3 ≤ 0 → R32 (x2 + 1) ∧ L_X10_regions_30 X d n (zpV P) x1 (x2 + 1) σ) ∧ (¬ (x3 ≤ 0) → (0 ≤ x3 + (-1) ∧ x3 + (-1) < 81) ∧ (∀ y9 : Int, y9 = gI σ 87 ((x3 + (-1)).toNat) → R32 (x3 + (-1)) ∧ L_X10_regions_165 X d n (zpV P) x1 x2 (x3 + (-1)) y9 0 σ))) :
    L_X10_regions_147 X d n (zpV P) x1 x2 x3 σ := by
  intro hx1 hx2 hx3 k0
  unfold Zn
  refine r_iload_n dX10_regions_147 rfl ?_
  refine r_if_le (t := 238) dX10_regions_148 rfl hx3  (fun c1 => ?_) (fun c2 => ?_)
  · have h3 := h.1 c1
    refine r_iinc dX10_regions_238 rfl rfl rfl ?_
    refine r_goto (t := 30) dX10_regions_241 rfl ?_
    obtain ⟨h4, h5⟩ := h3
    exact r_mask [true, true, true, false, false, false, false] rfl (h5 hx1 h4 k0)
  · have h6 := h.2 c2
    refine r_iinc dX10_regions_151 rfl rfl rfl ?_
    refine r_aload_n dX10_regions_154 rfl ?_
    refine r_getP (a := 87) dX10_regions_155 kf_RX10_56 (zlt hn rfl) sh_73 rfl (k0.1 _ _ _ (zlt hn rfl) p_73_17) ?_
    refine r_iload_n dX10_regions_158 rfl ?_
    obtain ⟨h7, h8⟩ := h6
    refine r_ialoadE dX10_regions_159 (zlt hn rfl) sh_87 h7.1 h7.2 rfl ?_
    refine r_name (fun y9 e10 => ?_)
    have h11 := h8 y9 e10
    refine r_istore dX10_regions_160 rfl rfl ?_
    refine r_iconst dX10_regions_162 ?_
    refine r_istore dX10_regions_163 rfl rfl ?_
    obtain ⟨h12, h13⟩ := h11
    exact r_mask [true, true, true, true, true, true, false] rfl (h13 hx1 hx2 h12 (by rw [e10]; exact (k0.2.1 _ _)) (r32c rfl) k0)
theorem b_X10_regions_165 {X : ZX} {d n : Nat} {P : ZSto → Prop} {x1 : Int} {x2 : Int} {x3 : Int} {x4 : Int} {x5 : Int} {σ : ZSto} (hn : 104 ≤ n) 
    (h : (4 ≤ x5 → L_X10_regions_147 X d n (zpV P) x1 x2 x3 σ) ∧ (¬ (4 ≤ x5) → ZkI X M_X10_beside d n [.ref (zB X + 73), iV x4, iV x5] σ (fun v5 σ6 => (v5 < 0 → R32 (x5 + 1) ∧ L_X10_regions_165 X d n (zpV P) x1 x2 x3 x4 (x5 + 1) σ6) ∧ (¬ (v5 < 0) → (0 ≤ v5 ∧ v5 < 81) ∧ (gI σ6 84 v5.toNat = x1 → R32 (x5 + 1) ∧ L_X10_regions_165 X d n (zpV P) x1 x2 x3 x4 (x5 + 1) σ6) ∧ (¬ (gI σ6 84 v5.toNat = x1) → (gI σ6 93 v5.toNat < 0 → (0 ≤ x3 ∧ x3 < 81) ∧ R32 (x3 + 1) ∧ R32 (x5 + 1) ∧ L_X10_regions_165 X d n (zpV P) x1 x2 (x3 + 1) x4 (x5 + 1) (sI (sI σ6 93 v5.toNat x2) 87 x3.toNat v5)) ∧ (¬ (gI σ6 93 v5.toNat < 0) → R32 (x5 + 1) ∧ L_X10_regions_165 X d n (zpV P) x1 x2 x3 x4 (x5 + 1) σ6)))))) :
    L_X10_regions_165 X d n (zpV P) x1 x2 x3 x4 x5 σ := by
  intro hx1 hx2 hx3 hx4 hx5 k0
  unfold Zn
  refine r_iload dX10_regions_165 rfl ?_
  refine r_iconst dX10_regions_167 ?_
  refine r_icmp_ge (t := 235) dX10_regions_168 rfl hx5 (r32c rfl) (fun c1 => ?_) (fun c2 => ?_)
  · have h3 := h.1 c1
    refine r_goto (t := 147) dX10_regions_235 rfl ?_
    exact r_mask [true, true, true, true, false, false, false] rfl (h3 hx1 hx2 hx3 k0)
  · have h4 := h.2 c2
    refine r_aload_n dX10_regions_171 rfl ?_
    refine r_iload dX10_regions_172 rfl ?_
    refine r_iload dX10_regions_174 rfl ?_
    refine n_callV (N := M_X10_beside) (As := [iV x4, iV x5]) (st := []) dX10_regions_176 mk_X10_beside km_RX10_142 kd_X10_beside rfl (zlt hn rfl) sh_73 (q := (RX10, TX10, 52)) rfl rfl (zFits_rm d n n n (Nat.le_refl n)) (Nat.le_of_ble_eq_true rfl) rfl k0 h4 ?_
    rintro _ σ6 k7 ⟨v5, rfl, h8, h9⟩
    change Zm _ _ _ _ _ _ 179 _ [iV v5] _
    refine r_istore dX10_regions_179 rfl rfl ?_
    refine r_iload dX10_regions_181 rfl ?_
    refine r_if_lt (t := 229) dX10_regions_183 rfl h8  (fun c10 => ?_) (fun c11 => ?_)
    · have h12 := h9.1 c10
      refine r_iinc dX10_regions_229 rfl rfl rfl ?_
      refine r_goto (t := 165) dX10_regions_232 rfl ?_
      obtain ⟨h13, h14⟩ := h12
      exact r_mask [true, true, true, true, true, true, false] rfl (h14 hx1 hx2 hx3 hx4 h13 k7)
    · have h15 := h9.2 c11
      refine r_aload_n dX10_regions_186 rfl ?_
      refine r_getP (a := 84) dX10_regions_187 kf_RX10_46 (zlt hn rfl) sh_73 rfl (k7.1 _ _ _ (zlt hn rfl) p_73_14) ?_
      refine r_iload dX10_regions_190 rfl ?_
      obtain ⟨h16, h17⟩ := h15
      refine r_baloadE dX10_regions_192 (zlt hn rfl) sh_84 h16.1 h16.2 rfl ?_
      refine r_iload_n dX10_regions_193 rfl ?_
      refine r_icmp_eq (t := 229) dX10_regions_194 rfl (k7.2.1 _ _) hx1 (fun c18 => ?_) (fun c19 => ?_)
      · have h20 := h17.1 c18
        refine r_iinc dX10_regions_229 rfl rfl rfl ?_
        refine r_goto (t := 165) dX10_regions_232 rfl ?_
        obtain ⟨h21, h22⟩ := h20
        exact r_mask [true, true, true, true, true, true, false] rfl (h22 hx1 hx2 hx3 hx4 h21 k7)
      · have h23 := h17.2 c19
        refine r_aload_n dX10_regions_197 rfl ?_
        refine r_getP (a := 93) dX10_regions_198 kf_RX10_77 (zlt hn rfl) sh_73 rfl (k7.1 _ _ _ (zlt hn rfl) p_73_34) ?_
        refine r_iload dX10_regions_201 rfl ?_
        refine r_ialoadE dX10_regions_203 (zlt hn rfl) sh_93 h16.1 h16.2 rfl ?_
        refine r_if_lt (t := 210) dX10_regions_204 rfl (k7.2.1 _ _)  (fun c24 => ?_) (fun c25 => ?_)
        · have h26 := h23.1 c24
          refine r_aload_n dX10_regions_210 rfl ?_
          refine r_getP (a := 93) dX10_regions_211 kf_RX10_77 (zlt hn rfl) sh_73 rfl (k7.1 _ _ _ (zlt hn rfl) p_73_34) ?_
          refine r_iload dX10_regions_214 rfl ?_
          refine r_iload_n dX10_regions_216 rfl ?_
          refine r_iastore dX10_regions_217 (zlt hn rfl) sh_93 h16.1 h16.2 ?_
          have k27 := zok_i (i := v5.toNat) (x := x2) k7 sh_93 hx2
          refine r_aload_n dX10_regions_218 rfl ?_
          refine r_getP (a := 87) dX10_regions_219 kf_RX10_56 (zlt hn rfl) sh_73 rfl (k27.1 _ _ _ (zlt hn rfl) p_73_17) ?_
          refine r_iload_n dX10_regions_222 rfl ?_
          refine r_iload dX10_regions_223 rfl ?_
          obtain ⟨h28, h29⟩ := h26
          refine r_iastore dX10_regions_225 (zlt hn rfl) sh_87 h28.1 h28.2 ?_
          have k30 := zok_i (i := x3.toNat) (x := v5) k27 sh_87 h8
          refine r_iinc dX10_regions_226 rfl rfl rfl ?_
          refine r_iinc dX10_regions_229 rfl rfl rfl ?_
          refine r_goto (t := 165) dX10_regions_232 rfl ?_
          obtain ⟨h31, h32⟩ := h29
          obtain ⟨h33, h34⟩ := h32
          exact r_mask [true, true, true, true, true, true, false] rfl (h34 hx1 hx2 h31 hx4 h33 k30)
        · have h35 := h23.2 c25
          refine r_goto (t := 229) dX10_regions_207 rfl ?_
          refine r_iinc dX10_regions_229 rfl rfl rfl ?_
          refine r_goto (t := 165) dX10_regions_232 rfl ?_
          obtain ⟨h36, h37⟩ := h35
          exact r_mask [true, true, true, true, true, true, false] rfl (h37 hx1 hx2 hx3 hx4 h36 k7)
/-! StoneRoomModel.isVital -/
theorem dX10_isVital_0 : decode M_X10_isVital.2.1 0 = .ok (.iconst 0, 1) := by decide +kernel
theorem dX10_isVital_1 : decode M_X10_isVital.2.1 1 = .ok (.istore_n 3, 1) := by decide +kernel
theorem dX10_isVital_2 : decode M_X10_isVital.2.1 2 = .ok (.iconst 0, 1) := by decide +kernel
theorem dX10_isVital_3 : decode M_X10_isVital.2.1 3 = .ok (.istore 4, 2) := by decide +kernel
theorem dX10_isVital_5 : decode M_X10_isVital.2.1 5 = .ok (.iload 4, 2) := by decide +kernel
theorem dX10_isVital_7 : decode M_X10_isVital.2.1 7 = .ok (.aload_n 0, 1) := by decide +kernel
theorem dX10_isVital_8 : decode M_X10_isVital.2.1 8 = .ok (.getfield 139, 3) := by decide +kernel
theorem dX10_isVital_11 : decode M_X10_isVital.2.1 11 = .ok (.aload_n 0, 1) := by decide +kernel
theorem dX10_isVital_12 : decode M_X10_isVital.2.1 12 = .ok (.getfield 139, 3) := by decide +kernel
theorem dX10_isVital_15 : decode M_X10_isVital.2.1 15 = .ok (.imul, 1) := by decide +kernel
theorem dX10_isVital_16 : decode M_X10_isVital.2.1 16 = .ok (.if_icmp .ge 98, 3) := by decide +kernel
theorem dX10_isVital_19 : decode M_X10_isVital.2.1 19 = .ok (.aload_n 0, 1) := by decide +kernel
theorem dX10_isVital_20 : decode M_X10_isVital.2.1 20 = .ok (.getfield 77, 3) := by decide +kernel
theorem dX10_isVital_23 : decode M_X10_isVital.2.1 23 = .ok (.iload 4, 2) := by decide +kernel
theorem dX10_isVital_25 : decode M_X10_isVital.2.1 25 = .ok (.iaload, 1) := by decide +kernel
theorem dX10_isVital_26 : decode M_X10_isVital.2.1 26 = .ok (.iload_n 1, 1) := by decide +kernel
theorem dX10_isVital_27 : decode M_X10_isVital.2.1 27 = .ok (.if_icmp .ne 81, 3) := by decide +kernel
theorem dX10_isVital_30 : decode M_X10_isVital.2.1 30 = .ok (.aload_n 0, 1) := by decide +kernel
theorem dX10_isVital_31 : decode M_X10_isVital.2.1 31 = .ok (.getfield 46, 3) := by decide +kernel
theorem dX10_isVital_34 : decode M_X10_isVital.2.1 34 = .ok (.iload 4, 2) := by decide +kernel
theorem dX10_isVital_36 : decode M_X10_isVital.2.1 36 = .ok (.baload, 1) := by decide +kernel
theorem dX10_isVital_37 : decode M_X10_isVital.2.1 37 = .ok (.ifCond .eq 6, 3) := by decide +kernel
theorem dX10_isVital_40 : decode M_X10_isVital.2.1 40 = .ok (.goto 68, 3) := by decide +kernel
theorem dX10_isVital_43 : decode M_X10_isVital.2.1 43 = .ok (.iconst 1, 1) := by decide +kernel
theorem dX10_isVital_44 : decode M_X10_isVital.2.1 44 = .ok (.istore_n 3, 1) := by decide +kernel
theorem dX10_isVital_45 : decode M_X10_isVital.2.1 45 = .ok (.iconst 0, 1) := by decide +kernel
theorem dX10_isVital_46 : decode M_X10_isVital.2.1 46 = .ok (.istore 5, 2) := by decide +kernel
theorem dX10_isVital_48 : decode M_X10_isVital.2.1 48 = .ok (.iconst 0, 1) := by decide +kernel
theorem dX10_isVital_49 : decode M_X10_isVital.2.1 49 = .ok (.istore 6, 2) := by decide +kernel
theorem dX10_isVital_51 : decode M_X10_isVital.2.1 51 = .ok (.iload 6, 2) := by decide +kernel
theorem dX10_isVital_53 : decode M_X10_isVital.2.1 53 = .ok (.iconst 4, 1) := by decide +kernel
theorem dX10_isVital_54 : decode M_X10_isVital.2.1 54 = .ok (.if_icmp .ge 47, 3) := by decide +kernel
theorem dX10_isVital_57 : decode M_X10_isVital.2.1 57 = .ok (.aload_n 0, 1) := by decide +kernel
theorem dX10_isVital_58 : decode M_X10_isVital.2.1 58 = .ok (.iload 4, 2) := by decide +kernel
theorem dX10_isVital_60 : decode M_X10_isVital.2.1 60 = .ok (.iload 6, 2) := by decide +kernel
theorem dX10_isVital_62 : decode M_X10_isVital.2.1 62 = .ok (.invokevirtual 142, 3) := by decide +kernel
theorem dX10_isVital_65 : decode M_X10_isVital.2.1 65 = .ok (.istore 7, 2) := by decide +kernel
theorem dX10_isVital_67 : decode M_X10_isVital.2.1 67 = .ok (.iload 5, 2) := by decide +kernel
theorem dX10_isVital_69 : decode M_X10_isVital.2.1 69 = .ok (.ifCond .ne 19, 3) := by decide +kernel
theorem dX10_isVital_72 : decode M_X10_isVital.2.1 72 = .ok (.iload 7, 2) := by decide +kernel
theorem dX10_isVital_74 : decode M_X10_isVital.2.1 74 = .ok (.ifCond .lt 18, 3) := by decide +kernel
theorem dX10_isVital_77 : decode M_X10_isVital.2.1 77 = .ok (.aload_n 0, 1) := by decide +kernel
theorem dX10_isVital_78 : decode M_X10_isVital.2.1 78 = .ok (.getfield 80, 3) := by decide +kernel
theorem dX10_isVital_81 : decode M_X10_isVital.2.1 81 = .ok (.iload 7, 2) := by decide +kernel
theorem dX10_isVital_83 : decode M_X10_isVital.2.1 83 = .ok (.iaload, 1) := by decide +kernel
theorem dX10_isVital_84 : decode M_X10_isVital.2.1 84 = .ok (.iload_n 2, 1) := by decide +kernel
theorem dX10_isVital_85 : decode M_X10_isVital.2.1 85 = .ok (.if_icmp .ne 7, 3) := by decide +kernel
theorem dX10_isVital_88 : decode M_X10_isVital.2.1 88 = .ok (.iconst 1, 1) := by decide +kernel
theorem dX10_isVital_89 : decode M_X10_isVital.2.1 89 = .ok (.goto 4, 3) := by decide +kernel
theorem dX10_isVital_92 : decode M_X10_isVital.2.1 92 = .ok (.iconst 0, 1) := by decide +kernel
theorem dX10_isVital_93 : decode M_X10_isVital.2.1 93 = .ok (.istore 5, 2) := by decide +kernel
theorem dX10_isVital_95 : decode M_X10_isVital.2.1 95 = .ok (.iinc 6 1, 3) := by decide +kernel
theorem dX10_isVital_98 : decode M_X10_isVital.2.1 98 = .ok (.goto (-47), 3) := by decide +kernel
theorem dX10_isVital_101 : decode M_X10_isVital.2.1 101 = .ok (.iload 5, 2) := by decide +kernel
theorem dX10_isVital_103 : decode M_X10_isVital.2.1 103 = .ok (.ifCond .ne 5, 3) := by decide +kernel
theorem dX10_isVital_106 : decode M_X10_isVital.2.1 106 = .ok (.iconst 0, 1) := by decide +kernel
theorem dX10_isVital_107 : decode M_X10_isVital.2.1 107 = .ok (.ireturn, 1) := by decide +kernel
theorem dX10_isVital_108 : decode M_X10_isVital.2.1 108 = .ok (.iinc 4 1, 3) := by decide +kernel
theorem dX10_isVital_111 : decode M_X10_isVital.2.1 111 = .ok (.goto (-106), 3) := by decide +kernel
theorem dX10_isVital_114 : decode M_X10_isVital.2.1 114 = .ok (.iload_n 3, 1) := by decide +kernel
theorem dX10_isVital_115 : decode M_X10_isVital.2.1 115 = .ok (.ireturn, 1) := by decide +kernel
def L_X10_isVital_5 (X : ZX) (d n : Nat) (P : Option Value → ZSto → Prop) (x1 : Int) (x2 : Int) (x3 : Int) (x4 : Int) (σ : ZSto) : Prop := R32 x1 → R32 x2 → R32 x3 → R32 x4 → ZOk n σ → Zn X M_X10_isVital d n P 5 [some (.ref (zB X + 73)), some (iV x1), some (iV x2), some (iV x3), some (iV x4), none, none, none] [] σ
def L_X10_isVital_51 (X : ZX) (d n : Nat) (P : Option Value → ZSto → Prop) (x1 : Int) (x2 : Int) (x3 : Int) (x4 : Int) (x5 : Int) (x6 : Int) (σ : ZSto) : Prop := R32 x1 → R32 x2 → R32 x3 → R32 x4 → R32 x5 → R32 x6 → ZOk n σ → Zn X M_X10_isVital d n P 51 [some (.ref (zB X + 73)), some (iV x1), some (iV x2), some (iV x3), some (iV x4), some (iV x5), some (iV x6), none] [] σ
theorem w_X10_isVital {X : ZX} {d n : Nat} {P : Int → ZSto → Prop} {x1 : Int} {x2 : Int} {σ : ZSto} (hn : 104 ≤ n)  (hx1 : R32 x1) (hx2 : R32 x2)
    (h : L_X10_isVital_5 X d n (zpZ P) x1 x2 0 0 σ) :
    ZkZ X M_X10_isVital (d + 1) n [.ref (zB X + 73), iV x1, iV x2] σ P := by
  refine zk_of (ls := [some (.ref (zB X + 73)), some (iV x1), some (iV x2), none, none, none, none, none]) pl_RX10 (Nat.le_of_ble_eq_true rfl) rfl (fun k0 => ?_)
  unfold Zn
  refine r_iconst dX10_isVital_0 ?_
  refine r_istore_n dX10_isVital_1 rfl rfl ?_
  refine r_iconst dX10_isVital_2 ?_
  refine r_istore dX10_isVital_3 rfl rfl ?_
  exact r_mask [true, true, true, true, true, false, false, false] rfl (h hx1 hx2 (r32c rfl) (r32c rfl) k0)
theorem b_X10_isVital_5 {X : ZX} {d n : Nat} {P : Int → ZSto → Prop} {x1 : Int} {x2 : Int} {x3 : Int} {x4 : Int} {σ : ZSto} (hn : 104 ≤ n) 
    (h : R32 ((gI σ 73 13) * (gI σ 73 13)) ∧ ((gI σ 73 13) * (gI σ 73 13) ≤ x4 → (x3 = 0 ∨ x3 = 1) ∧ P x3 σ) ∧ (¬ ((gI σ 73 13) * (gI σ 73 13) ≤ x4) → (0 ≤ x4 ∧ x4 < 81) ∧ (¬ gI σ 93 x4.toNat = x1 → R32 (x4 + 1) ∧ L_X10_isVital_5 X d n (zpZ P) x1 x2 x3 (x4 + 1) σ) ∧ (gI σ 93 x4.toNat = x1 → (gI σ 84 x4.toNat = 0 → L_X10_isVital_51 X d n (zpZ P) x1 x2 1 x4 0 0 σ) ∧ (¬ (gI σ 84 x4.toNat = 0) → R32 (x4 + 1) ∧ L_X10_isVital_5 X d n (zpZ P) x1 x2 x3 (x4 + 1) σ)))) :
    L_X10_isVital_5 X d n (zpZ P) x1 x2 x3 x4 σ := by
  intro hx1 hx2 hx3 hx4 k0
  unfold Zn
  refine r_iload dX10_isVital_5 rfl ?_
  refine r_aload_n dX10_isVital_7 rfl ?_
  refine r_getI dX10_isVital_8 kf_RX10_139 (zlt hn rfl) sh_73 (Or.inl rfl) rfl ?_
  refine r_aload_n dX10_isVital_11 rfl ?_
  refine r_getI dX10_isVital_12 kf_RX10_139 (zlt hn rfl) sh_73 (Or.inl rfl) rfl ?_
  refine r_imul dX10_isVital_15 ?_
  obtain ⟨h1, h2⟩ := h
  refine r_icmp_ge (t := 114) dX10_isVital_16 rfl hx4 h1 (fun c3 => ?_) (fun c4 => ?_)
  · have h5 := h2.1 c3
    refine r_iload_n dX10_isVital_114 rfl ?_
    obtain ⟨h6, h7⟩ := h5
    exact r_zreturn dX10_isVital_115 rfl h6 ⟨k0, _, rfl, h6, h7⟩
  · have h8 := h2.2 c4
    refine r_aload_n dX10_isVital_19 rfl ?_
    refine r_getP (a := 93) dX10_isVital_20 kf_RX10_77 (zlt hn rfl) sh_73 rfl (k0.1 _ _ _ (zlt hn rfl) p_73_34) ?_
    refine r_iload dX10_isVital_23 rfl ?_
    obtain ⟨h9, h10⟩ := h8
    refine r_ialoadE dX10_isVital_25 (zlt hn rfl) sh_93 h9.1 h9.2 rfl ?_
    refine r_iload_n dX10_isVital_26 rfl ?_
    refine r_icmp_ne (t := 108) dX10_isVital_27 rfl (k0.2.1 _ _) hx1 (fun c11 => ?_) (fun c12 => ?_)
    · have h13 := h10.1 c11
      refine r_iinc dX10_isVital_108 rfl rfl rfl ?_
      refine r_goto (t := 5) dX10_isVital_111 rfl ?_
      obtain ⟨h14, h15⟩ := h13
      exact r_mask [true, true, true, true, true, false, false, false] rfl (h15 hx1 hx2 hx3 h14 k0)
    · have h16 := h10.2 c12
      refine r_aload_n dX10_isVital_30 rfl ?_
      refine r_getP (a := 84) dX10_isVital_31 kf_RX10_46 (zlt hn rfl) sh_73 rfl (k0.1 _ _ _ (zlt hn rfl) p_73_14) ?_
      refine r_iload dX10_isVital_34 rfl ?_
      refine r_baloadE dX10_isVital_36 (zlt hn rfl) sh_84 h9.1 h9.2 rfl ?_
      refine r_if_eq (t := 43) dX10_isVital_37 rfl (k0.2.1 _ _)  (fun c17 => ?_) (fun c18 => ?_)
      · have h19 := h16.1 c17
        refine r_iconst dX10_isVital_43 ?_
        refine r_istore_n dX10_isVital_44 rfl rfl ?_
        refine r_iconst dX10_isVital_45 ?_
        refine r_istore dX10_isVital_46 rfl rfl ?_
        refine r_iconst dX10_isVital_48 ?_
        refine r_istore dX10_isVital_49 rfl rfl ?_
        exact r_mask [true, true, true, true, true, true, true, false] rfl (h19 hx1 hx2 (r32c rfl) hx4 (r32c rfl) (r32c rfl) k0)
      · have h20 := h16.2 c18
        refine r_goto (t := 108) dX10_isVital_40 rfl ?_
        refine r_iinc dX10_isVital_108 rfl rfl rfl ?_
        refine r_goto (t := 5) dX10_isVital_111 rfl ?_
        obtain ⟨h21, h22⟩ := h20
        exact r_mask [true, true, true, true, true, false, false, false] rfl (h22 hx1 hx2 hx3 h21 k0)
theorem b_X10_isVital_51 {X : ZX} {d n : Nat} {P : Int → ZSto → Prop} {x1 : Int} {x2 : Int} {x3 : Int} {x4 : Int} {x5 : Int} {x6 : Int} {σ : ZSto} (hn : 104 ≤ n) 
    (h : (4 ≤ x6 → (¬ x5 = 0 → R32 (x4 + 1) ∧ L_X10_isVital_5 X d n (zpZ P) x1 x2 x3 (x4 + 1) σ) ∧ (x5 = 0 → P 0 σ)) ∧ (¬ (4 ≤ x6) → ZkI X M_X10_beside d n [.ref (zB X + 73), iV x4, iV x6] σ (fun v11 σ12 => (¬ x5 = 0 → R32 (x6 + 1) ∧ L_X10_isVital_51 X d n (zpZ P) x1 x2 x3 x4 1 (x6 + 1) σ12) ∧ (x5 = 0 → (v11 < 0 → R32 (x6 + 1) ∧ L_X10_isVital_51 X d n (zpZ P) x1 x2 x3 x4 0 (x6 + 1) σ12) ∧ (¬ (v11 < 0) → (0 ≤ v11 ∧ v11 < 81) ∧ (¬ gI σ12 94 v11.toNat = x2 → R32 (x6 + 1) ∧ L_X10_isVital_51 X d n (zpZ P) x1 x2 x3 x4 0 (x6 + 1) σ12) ∧ (gI σ12 94 v11.toNat = x2 → R32 (x6 + 1) ∧ L_X10_isVital_51 X d n (zpZ P) x1 x2 x3 x4 1 (x6 + 1) σ12)))))) :
    L_X10_isVital_51 X d n (zpZ P) x1 x2 x3 x4 x5 x6 σ := by
  intro hx1 hx2 hx3 hx4 hx5 hx6 k0
  unfold Zn
  refine r_iload dX10_isVital_51 rfl ?_
  refine r_iconst dX10_isVital_53 ?_
  refine r_icmp_ge (t := 101) dX10_isVital_54 rfl hx6 (r32c rfl) (fun c1 => ?_) (fun c2 => ?_)
  · have h3 := h.1 c1
    refine r_iload dX10_isVital_101 rfl ?_
    refine r_if_ne (t := 108) dX10_isVital_103 rfl hx5  (fun c4 => ?_) (fun c5 => ?_)
    · have h6 := h3.1 c4
      refine r_iinc dX10_isVital_108 rfl rfl rfl ?_
      refine r_goto (t := 5) dX10_isVital_111 rfl ?_
      obtain ⟨h7, h8⟩ := h6
      exact r_mask [true, true, true, true, true, false, false, false] rfl (h8 hx1 hx2 hx3 h7 k0)
    · have h9 := h3.2 c5
      refine r_iconst dX10_isVital_106 ?_
      exact r_zreturn dX10_isVital_107 rfl (Or.inl rfl) ⟨k0, _, rfl, (Or.inl rfl), h9⟩
  · have h10 := h.2 c2
    refine r_aload_n dX10_isVital_57 rfl ?_
    refine r_iload dX10_isVital_58 rfl ?_
    refine r_iload dX10_isVital_60 rfl ?_
    refine n_callV (N := M_X10_beside) (As := [iV x4, iV x6]) (st := []) dX10_isVital_62 mk_X10_beside km_RX10_142 kd_X10_beside rfl (zlt hn rfl) sh_73 (q := (RX10, TX10, 52)) rfl rfl (zFits_rm d n n n (Nat.le_refl n)) (Nat.le_of_ble_eq_true rfl) rfl k0 h10 ?_
    rintro _ σ12 k13 ⟨v11, rfl, h14, h15⟩
    change Zm _ _ _ _ _ _ 65 _ [iV v11] _
    refine r_istore dX10_isVital_65 rfl rfl ?_
    refine r_iload dX10_isVital_67 rfl ?_
    refine r_if_ne (t := 88) dX10_isVital_69 rfl hx5  (fun c16 => ?_) (fun c17 => ?_)
    · have h18 := h15.1 c16
      refine r_iconst dX10_isVital_88 ?_
      refine r_goto (t := 93) dX10_isVital_89 rfl ?_
      refine r_istore dX10_isVital_93 rfl rfl ?_
      refine r_iinc dX10_isVital_95 rfl rfl rfl ?_
      refine r_goto (t := 51) dX10_isVital_98 rfl ?_
      obtain ⟨h19, h20⟩ := h18
      exact r_mask [true, true, true, true, true, true, true, false] rfl (h20 hx1 hx2 hx3 hx4 (r32c rfl) h19 k13)
    · have h21 := h15.2 c17
      refine r_iload dX10_isVital_72 rfl ?_
      refine r_if_lt (t := 92) dX10_isVital_74 rfl h14  (fun c22 => ?_) (fun c23 => ?_)
      · have h24 := h21.1 c22
        refine r_iconst dX10_isVital_92 ?_
        refine r_istore dX10_isVital_93 rfl rfl ?_
        refine r_iinc dX10_isVital_95 rfl rfl rfl ?_
        refine r_goto (t := 51) dX10_isVital_98 rfl ?_
        obtain ⟨h25, h26⟩ := h24
        exact r_mask [true, true, true, true, true, true, true, false] rfl (h26 hx1 hx2 hx3 hx4 (r32c rfl) h25 k13)
      · have h27 := h21.2 c23
        refine r_aload_n dX10_isVital_77 rfl ?_
        refine r_getP (a := 94) dX10_isVital_78 kf_RX10_80 (zlt hn rfl) sh_73 rfl (k13.1 _ _ _ (zlt hn rfl) p_73_35) ?_
        refine r_iload dX10_isVital_81 rfl ?_
        obtain ⟨h28, h29⟩ := h27
        refine r_ialoadE dX10_isVital_83 (zlt hn rfl) sh_94 h28.1 h28.2 rfl ?_
        refine r_iload_n dX10_isVital_84 rfl ?_
        refine r_icmp_ne (t := 92) dX10_isVital_85 rfl (k13.2.1 _ _) hx2 (fun c30 => ?_) (fun c31 => ?_)
        · have h32 := h29.1 c30
          refine r_iconst dX10_isVital_92 ?_
          refine r_istore dX10_isVital_93 rfl rfl ?_
          refine r_iinc dX10_isVital_95 rfl rfl rfl ?_
          refine r_goto (t := 51) dX10_isVital_98 rfl ?_
          obtain ⟨h33, h34⟩ := h32
          exact r_mask [true, true, true, true, true, true, true, false] rfl (h34 hx1 hx2 hx3 hx4 (r32c rfl) h33 k13)
        · have h35 := h29.2 c31
          refine r_iconst dX10_isVital_88 ?_
          refine r_goto (t := 93) dX10_isVital_89 rfl ?_
          refine r_istore dX10_isVital_93 rfl rfl ?_
          refine r_iinc dX10_isVital_95 rfl rfl rfl ?_
          refine r_goto (t := 51) dX10_isVital_98 rfl ?_
          obtain ⟨h36, h37⟩ := h35
          exact r_mask [true, true, true, true, true, true, true, false] rfl (h37 hx1 hx2 hx3 hx4 (r32c rfl) h36 k13)
/-! StoneRoomModel.lives -/
theorem dX10_lives_0 : decode M_X10_lives.2.1 0 = .ok (.aload_n 0, 1) := by decide +kernel
theorem dX10_lives_1 : decode M_X10_lives.2.1 1 = .ok (.aload_n 0, 1) := by decide +kernel
theorem dX10_lives_2 : decode M_X10_lives.2.1 2 = .ok (.getfield 46, 3) := by decide +kernel
theorem dX10_lives_5 : decode M_X10_lives.2.1 5 = .ok (.iload_n 1, 1) := by decide +kernel
theorem dX10_lives_6 : decode M_X10_lives.2.1 6 = .ok (.baload, 1) := by decide +kernel
theorem dX10_lives_7 : decode M_X10_lives.2.1 7 = .ok (.invokevirtual 293, 3) := by decide +kernel
theorem dX10_lives_10 : decode M_X10_lives.2.1 10 = .ok (.iconst 0, 1) := by decide +kernel
theorem dX10_lives_11 : decode M_X10_lives.2.1 11 = .ok (.istore_n 2, 1) := by decide +kernel
theorem dX10_lives_12 : decode M_X10_lives.2.1 12 = .ok (.iload_n 2, 1) := by decide +kernel
theorem dX10_lives_13 : decode M_X10_lives.2.1 13 = .ok (.bipush 81, 2) := by decide +kernel
theorem dX10_lives_15 : decode M_X10_lives.2.1 15 = .ok (.if_icmp .ge 51, 3) := by decide +kernel
theorem dX10_lives_18 : decode M_X10_lives.2.1 18 = .ok (.aload_n 0, 1) := by decide +kernel
theorem dX10_lives_19 : decode M_X10_lives.2.1 19 = .ok (.getfield 83, 3) := by decide +kernel
theorem dX10_lives_22 : decode M_X10_lives.2.1 22 = .ok (.iload_n 2, 1) := by decide +kernel
theorem dX10_lives_23 : decode M_X10_lives.2.1 23 = .ok (.aload_n 0, 1) := by decide +kernel
theorem dX10_lives_24 : decode M_X10_lives.2.1 24 = .ok (.getfield 80, 3) := by decide +kernel
theorem dX10_lives_27 : decode M_X10_lives.2.1 27 = .ok (.iload_n 2, 1) := by decide +kernel
theorem dX10_lives_28 : decode M_X10_lives.2.1 28 = .ok (.iaload, 1) := by decide +kernel
theorem dX10_lives_29 : decode M_X10_lives.2.1 29 = .ok (.iload_n 2, 1) := by decide +kernel
theorem dX10_lives_30 : decode M_X10_lives.2.1 30 = .ok (.if_icmp .ne 7, 3) := by decide +kernel
theorem dX10_lives_33 : decode M_X10_lives.2.1 33 = .ok (.iconst 1, 1) := by decide +kernel
theorem dX10_lives_34 : decode M_X10_lives.2.1 34 = .ok (.goto 4, 3) := by decide +kernel
theorem dX10_lives_37 : decode M_X10_lives.2.1 37 = .ok (.iconst 0, 1) := by decide +kernel
theorem dX10_lives_38 : decode M_X10_lives.2.1 38 = .ok (.bastore, 1) := by decide +kernel
theorem dX10_lives_39 : decode M_X10_lives.2.1 39 = .ok (.aload_n 0, 1) := by decide +kernel
theorem dX10_lives_40 : decode M_X10_lives.2.1 40 = .ok (.getfield 86, 3) := by decide +kernel
theorem dX10_lives_43 : decode M_X10_lives.2.1 43 = .ok (.iload_n 2, 1) := by decide +kernel
theorem dX10_lives_44 : decode M_X10_lives.2.1 44 = .ok (.aload_n 0, 1) := by decide +kernel
theorem dX10_lives_45 : decode M_X10_lives.2.1 45 = .ok (.getfield 77, 3) := by decide +kernel
theorem dX10_lives_48 : decode M_X10_lives.2.1 48 = .ok (.iload_n 2, 1) := by decide +kernel
theorem dX10_lives_49 : decode M_X10_lives.2.1 49 = .ok (.iaload, 1) := by decide +kernel
theorem dX10_lives_50 : decode M_X10_lives.2.1 50 = .ok (.iload_n 2, 1) := by decide +kernel
theorem dX10_lives_51 : decode M_X10_lives.2.1 51 = .ok (.if_icmp .ne 7, 3) := by decide +kernel
theorem dX10_lives_54 : decode M_X10_lives.2.1 54 = .ok (.iconst 1, 1) := by decide +kernel
theorem dX10_lives_55 : decode M_X10_lives.2.1 55 = .ok (.goto 4, 3) := by decide +kernel
theorem dX10_lives_58 : decode M_X10_lives.2.1 58 = .ok (.iconst 0, 1) := by decide +kernel
theorem dX10_lives_59 : decode M_X10_lives.2.1 59 = .ok (.bastore, 1) := by decide +kernel
theorem dX10_lives_60 : decode M_X10_lives.2.1 60 = .ok (.iinc 2 1, 3) := by decide +kernel
theorem dX10_lives_63 : decode M_X10_lives.2.1 63 = .ok (.goto (-51), 3) := by decide +kernel
theorem dX10_lives_66 : decode M_X10_lives.2.1 66 = .ok (.iconst 1, 1) := by decide +kernel
theorem dX10_lives_67 : decode M_X10_lives.2.1 67 = .ok (.istore_n 2, 1) := by decide +kernel
theorem dX10_lives_68 : decode M_X10_lives.2.1 68 = .ok (.iload_n 2, 1) := by decide +kernel
theorem dX10_lives_69 : decode M_X10_lives.2.1 69 = .ok (.ifCond .eq 247, 3) := by decide +kernel
theorem dX10_lives_72 : decode M_X10_lives.2.1 72 = .ok (.iconst 0, 1) := by decide +kernel
theorem dX10_lives_73 : decode M_X10_lives.2.1 73 = .ok (.istore_n 2, 1) := by decide +kernel
theorem dX10_lives_74 : decode M_X10_lives.2.1 74 = .ok (.iconst 0, 1) := by decide +kernel
theorem dX10_lives_75 : decode M_X10_lives.2.1 75 = .ok (.istore_n 3, 1) := by decide +kernel
theorem dX10_lives_76 : decode M_X10_lives.2.1 76 = .ok (.iload_n 3, 1) := by decide +kernel
theorem dX10_lives_77 : decode M_X10_lives.2.1 77 = .ok (.aload_n 0, 1) := by decide +kernel
theorem dX10_lives_78 : decode M_X10_lives.2.1 78 = .ok (.getfield 139, 3) := by decide +kernel
theorem dX10_lives_81 : decode M_X10_lives.2.1 81 = .ok (.aload_n 0, 1) := by decide +kernel
theorem dX10_lives_82 : decode M_X10_lives.2.1 82 = .ok (.getfield 139, 3) := by decide +kernel
theorem dX10_lives_85 : decode M_X10_lives.2.1 85 = .ok (.imul, 1) := by decide +kernel
theorem dX10_lives_86 : decode M_X10_lives.2.1 86 = .ok (.if_icmp .ge 95, 3) := by decide +kernel
theorem dX10_lives_89 : decode M_X10_lives.2.1 89 = .ok (.aload_n 0, 1) := by decide +kernel
theorem dX10_lives_90 : decode M_X10_lives.2.1 90 = .ok (.getfield 83, 3) := by decide +kernel
theorem dX10_lives_93 : decode M_X10_lives.2.1 93 = .ok (.iload_n 3, 1) := by decide +kernel
theorem dX10_lives_94 : decode M_X10_lives.2.1 94 = .ok (.baload, 1) := by decide +kernel
theorem dX10_lives_95 : decode M_X10_lives.2.1 95 = .ok (.ifCond .ne 6, 3) := by decide +kernel
theorem dX10_lives_98 : decode M_X10_lives.2.1 98 = .ok (.goto 77, 3) := by decide +kernel
theorem dX10_lives_101 : decode M_X10_lives.2.1 101 = .ok (.iconst 0, 1) := by decide +kernel
theorem dX10_lives_102 : decode M_X10_lives.2.1 102 = .ok (.istore 4, 2) := by decide +kernel
theorem dX10_lives_104 : decode M_X10_lives.2.1 104 = .ok (.iconst 0, 1) := by decide +kernel
theorem dX10_lives_105 : decode M_X10_lives.2.1 105 = .ok (.istore 5, 2) := by decide +kernel
theorem dX10_lives_107 : decode M_X10_lives.2.1 107 = .ok (.iload 5, 2) := by decide +kernel
theorem dX10_lives_109 : decode M_X10_lives.2.1 109 = .ok (.aload_n 0, 1) := by decide +kernel
theorem dX10_lives_110 : decode M_X10_lives.2.1 110 = .ok (.getfield 139, 3) := by decide +kernel
theorem dX10_lives_113 : decode M_X10_lives.2.1 113 = .ok (.aload_n 0, 1) := by decide +kernel
theorem dX10_lives_114 : decode M_X10_lives.2.1 114 = .ok (.getfield 139, 3) := by decide +kernel
theorem dX10_lives_117 : decode M_X10_lives.2.1 117 = .ok (.imul, 1) := by decide +kernel
theorem dX10_lives_118 : decode M_X10_lives.2.1 118 = .ok (.if_icmp .ge 39, 3) := by decide +kernel
theorem dX10_lives_121 : decode M_X10_lives.2.1 121 = .ok (.iload 4, 2) := by decide +kernel
theorem dX10_lives_123 : decode M_X10_lives.2.1 123 = .ok (.aload_n 0, 1) := by decide +kernel
theorem dX10_lives_124 : decode M_X10_lives.2.1 124 = .ok (.getfield 86, 3) := by decide +kernel
theorem dX10_lives_127 : decode M_X10_lives.2.1 127 = .ok (.iload 5, 2) := by decide +kernel
theorem dX10_lives_129 : decode M_X10_lives.2.1 129 = .ok (.baload, 1) := by decide +kernel
theorem dX10_lives_130 : decode M_X10_lives.2.1 130 = .ok (.ifCond .eq 17, 3) := by decide +kernel
theorem dX10_lives_133 : decode M_X10_lives.2.1 133 = .ok (.aload_n 0, 1) := by decide +kernel
theorem dX10_lives_134 : decode M_X10_lives.2.1 134 = .ok (.iload 5, 2) := by decide +kernel
theorem dX10_lives_136 : decode M_X10_lives.2.1 136 = .ok (.iload_n 3, 1) := by decide +kernel
theorem dX10_lives_137 : decode M_X10_lives.2.1 137 = .ok (.invokevirtual 296, 3) := by decide +kernel
theorem dX10_lives_140 : decode M_X10_lives.2.1 140 = .ok (.ifCond .eq 7, 3) := by decide +kernel
theorem dX10_lives_143 : decode M_X10_lives.2.1 143 = .ok (.iconst 1, 1) := by decide +kernel
theorem dX10_lives_144 : decode M_X10_lives.2.1 144 = .ok (.goto 4, 3) := by decide +kernel
theorem dX10_lives_147 : decode M_X10_lives.2.1 147 = .ok (.iconst 0, 1) := by decide +kernel
theorem dX10_lives_148 : decode M_X10_lives.2.1 148 = .ok (.iadd, 1) := by decide +kernel
theorem dX10_lives_149 : decode M_X10_lives.2.1 149 = .ok (.istore 4, 2) := by decide +kernel
theorem dX10_lives_151 : decode M_X10_lives.2.1 151 = .ok (.iinc 5 1, 3) := by decide +kernel
theorem dX10_lives_154 : decode M_X10_lives.2.1 154 = .ok (.goto (-47), 3) := by decide +kernel
theorem dX10_lives_157 : decode M_X10_lives.2.1 157 = .ok (.iload 4, 2) := by decide +kernel
theorem dX10_lives_159 : decode M_X10_lives.2.1 159 = .ok (.iconst 2, 1) := by decide +kernel
theorem dX10_lives_160 : decode M_X10_lives.2.1 160 = .ok (.if_icmp .lt 6, 3) := by decide +kernel
theorem dX10_lives_163 : decode M_X10_lives.2.1 163 = .ok (.goto 12, 3) := by decide +kernel
theorem dX10_lives_166 : decode M_X10_lives.2.1 166 = .ok (.aload_n 0, 1) := by decide +kernel
theorem dX10_lives_167 : decode M_X10_lives.2.1 167 = .ok (.getfield 83, 3) := by decide +kernel
theorem dX10_lives_170 : decode M_X10_lives.2.1 170 = .ok (.iload_n 3, 1) := by decide +kernel
theorem dX10_lives_171 : decode M_X10_lives.2.1 171 = .ok (.iconst 0, 1) := by decide +kernel
theorem dX10_lives_172 : decode M_X10_lives.2.1 172 = .ok (.bastore, 1) := by decide +kernel
theorem dX10_lives_173 : decode M_X10_lives.2.1 173 = .ok (.iconst 1, 1) := by decide +kernel
theorem dX10_lives_174 : decode M_X10_lives.2.1 174 = .ok (.istore_n 2, 1) := by decide +kernel
theorem dX10_lives_175 : decode M_X10_lives.2.1 175 = .ok (.iinc 3 1, 3) := by decide +kernel
theorem dX10_lives_178 : decode M_X10_lives.2.1 178 = .ok (.goto (-102), 3) := by decide +kernel
theorem dX10_lives_181 : decode M_X10_lives.2.1 181 = .ok (.iconst 0, 1) := by decide +kernel
theorem dX10_lives_182 : decode M_X10_lives.2.1 182 = .ok (.istore_n 3, 1) := by decide +kernel
theorem dX10_lives_183 : decode M_X10_lives.2.1 183 = .ok (.iload_n 3, 1) := by decide +kernel
theorem dX10_lives_184 : decode M_X10_lives.2.1 184 = .ok (.aload_n 0, 1) := by decide +kernel
theorem dX10_lives_185 : decode M_X10_lives.2.1 185 = .ok (.getfield 139, 3) := by decide +kernel
theorem dX10_lives_188 : decode M_X10_lives.2.1 188 = .ok (.aload_n 0, 1) := by decide +kernel
theorem dX10_lives_189 : decode M_X10_lives.2.1 189 = .ok (.getfield 139, 3) := by decide +kernel
theorem dX10_lives_192 : decode M_X10_lives.2.1 192 = .ok (.imul, 1) := by decide +kernel
theorem dX10_lives_193 : decode M_X10_lives.2.1 193 = .ok (.if_icmp .ge 120, 3) := by decide +kernel
theorem dX10_lives_196 : decode M_X10_lives.2.1 196 = .ok (.aload_n 0, 1) := by decide +kernel
theorem dX10_lives_197 : decode M_X10_lives.2.1 197 = .ok (.getfield 77, 3) := by decide +kernel
theorem dX10_lives_200 : decode M_X10_lives.2.1 200 = .ok (.iload_n 3, 1) := by decide +kernel
theorem dX10_lives_201 : decode M_X10_lives.2.1 201 = .ok (.iaload, 1) := by decide +kernel
theorem dX10_lives_202 : decode M_X10_lives.2.1 202 = .ok (.ifCond .lt 105, 3) := by decide +kernel
theorem dX10_lives_205 : decode M_X10_lives.2.1 205 = .ok (.aload_n 0, 1) := by decide +kernel
theorem dX10_lives_206 : decode M_X10_lives.2.1 206 = .ok (.getfield 86, 3) := by decide +kernel
theorem dX10_lives_209 : decode M_X10_lives.2.1 209 = .ok (.aload_n 0, 1) := by decide +kernel
theorem dX10_lives_210 : decode M_X10_lives.2.1 210 = .ok (.getfield 77, 3) := by decide +kernel
theorem dX10_lives_213 : decode M_X10_lives.2.1 213 = .ok (.iload_n 3, 1) := by decide +kernel
theorem dX10_lives_214 : decode M_X10_lives.2.1 214 = .ok (.iaload, 1) := by decide +kernel
theorem dX10_lives_215 : decode M_X10_lives.2.1 215 = .ok (.baload, 1) := by decide +kernel
theorem dX10_lives_216 : decode M_X10_lives.2.1 216 = .ok (.ifCond .ne 6, 3) := by decide +kernel
theorem dX10_lives_219 : decode M_X10_lives.2.1 219 = .ok (.goto 88, 3) := by decide +kernel
theorem dX10_lives_222 : decode M_X10_lives.2.1 222 = .ok (.iconst 0, 1) := by decide +kernel
theorem dX10_lives_223 : decode M_X10_lives.2.1 223 = .ok (.istore 4, 2) := by decide +kernel
theorem dX10_lives_225 : decode M_X10_lives.2.1 225 = .ok (.iload 4, 2) := by decide +kernel
theorem dX10_lives_227 : decode M_X10_lives.2.1 227 = .ok (.iconst 4, 1) := by decide +kernel
theorem dX10_lives_228 : decode M_X10_lives.2.1 228 = .ok (.if_icmp .ge 79, 3) := by decide +kernel
theorem dX10_lives_231 : decode M_X10_lives.2.1 231 = .ok (.aload_n 0, 1) := by decide +kernel
theorem dX10_lives_232 : decode M_X10_lives.2.1 232 = .ok (.iload_n 3, 1) := by decide +kernel
theorem dX10_lives_233 : decode M_X10_lives.2.1 233 = .ok (.iload 4, 2) := by decide +kernel
theorem dX10_lives_235 : decode M_X10_lives.2.1 235 = .ok (.invokevirtual 142, 3) := by decide +kernel
theorem dX10_lives_238 : decode M_X10_lives.2.1 238 = .ok (.istore 5, 2) := by decide +kernel
theorem dX10_lives_240 : decode M_X10_lives.2.1 240 = .ok (.iload 5, 2) := by decide +kernel
theorem dX10_lives_242 : decode M_X10_lives.2.1 242 = .ok (.ifCond .lt 59, 3) := by decide +kernel
theorem dX10_lives_245 : decode M_X10_lives.2.1 245 = .ok (.aload_n 0, 1) := by decide +kernel
theorem dX10_lives_246 : decode M_X10_lives.2.1 246 = .ok (.getfield 80, 3) := by decide +kernel
theorem dX10_lives_249 : decode M_X10_lives.2.1 249 = .ok (.iload 5, 2) := by decide +kernel
theorem dX10_lives_251 : decode M_X10_lives.2.1 251 = .ok (.iaload, 1) := by decide +kernel
theorem dX10_lives_252 : decode M_X10_lives.2.1 252 = .ok (.ifCond .lt 49, 3) := by decide +kernel
theorem dX10_lives_255 : decode M_X10_lives.2.1 255 = .ok (.aload_n 0, 1) := by decide +kernel
theorem dX10_lives_256 : decode M_X10_lives.2.1 256 = .ok (.getfield 83, 3) := by decide +kernel
theorem dX10_lives_259 : decode M_X10_lives.2.1 259 = .ok (.aload_n 0, 1) := by decide +kernel
theorem dX10_lives_260 : decode M_X10_lives.2.1 260 = .ok (.getfield 80, 3) := by decide +kernel
theorem dX10_lives_263 : decode M_X10_lives.2.1 263 = .ok (.iload 5, 2) := by decide +kernel
theorem dX10_lives_265 : decode M_X10_lives.2.1 265 = .ok (.iaload, 1) := by decide +kernel
theorem dX10_lives_266 : decode M_X10_lives.2.1 266 = .ok (.baload, 1) := by decide +kernel
theorem dX10_lives_267 : decode M_X10_lives.2.1 267 = .ok (.ifCond .ne 34, 3) := by decide +kernel
theorem dX10_lives_270 : decode M_X10_lives.2.1 270 = .ok (.aload_n 0, 1) := by decide +kernel
theorem dX10_lives_271 : decode M_X10_lives.2.1 271 = .ok (.getfield 86, 3) := by decide +kernel
theorem dX10_lives_274 : decode M_X10_lives.2.1 274 = .ok (.aload_n 0, 1) := by decide +kernel
theorem dX10_lives_275 : decode M_X10_lives.2.1 275 = .ok (.getfield 77, 3) := by decide +kernel
theorem dX10_lives_278 : decode M_X10_lives.2.1 278 = .ok (.iload_n 3, 1) := by decide +kernel
theorem dX10_lives_279 : decode M_X10_lives.2.1 279 = .ok (.iaload, 1) := by decide +kernel
theorem dX10_lives_280 : decode M_X10_lives.2.1 280 = .ok (.baload, 1) := by decide +kernel
theorem dX10_lives_281 : decode M_X10_lives.2.1 281 = .ok (.ifCond .ne 6, 3) := by decide +kernel
theorem dX10_lives_284 : decode M_X10_lives.2.1 284 = .ok (.goto 17, 3) := by decide +kernel
theorem dX10_lives_287 : decode M_X10_lives.2.1 287 = .ok (.aload_n 0, 1) := by decide +kernel
theorem dX10_lives_288 : decode M_X10_lives.2.1 288 = .ok (.getfield 86, 3) := by decide +kernel
theorem dX10_lives_291 : decode M_X10_lives.2.1 291 = .ok (.aload_n 0, 1) := by decide +kernel
theorem dX10_lives_292 : decode M_X10_lives.2.1 292 = .ok (.getfield 77, 3) := by decide +kernel
theorem dX10_lives_295 : decode M_X10_lives.2.1 295 = .ok (.iload_n 3, 1) := by decide +kernel
theorem dX10_lives_296 : decode M_X10_lives.2.1 296 = .ok (.iaload, 1) := by decide +kernel
theorem dX10_lives_297 : decode M_X10_lives.2.1 297 = .ok (.iconst 0, 1) := by decide +kernel
theorem dX10_lives_298 : decode M_X10_lives.2.1 298 = .ok (.bastore, 1) := by decide +kernel
theorem dX10_lives_299 : decode M_X10_lives.2.1 299 = .ok (.iconst 1, 1) := by decide +kernel
theorem dX10_lives_300 : decode M_X10_lives.2.1 300 = .ok (.istore_n 2, 1) := by decide +kernel
theorem dX10_lives_301 : decode M_X10_lives.2.1 301 = .ok (.iinc 4 1, 3) := by decide +kernel
theorem dX10_lives_304 : decode M_X10_lives.2.1 304 = .ok (.goto (-79), 3) := by decide +kernel
theorem dX10_lives_307 : decode M_X10_lives.2.1 307 = .ok (.iinc 3 1, 3) := by decide +kernel
theorem dX10_lives_310 : decode M_X10_lives.2.1 310 = .ok (.goto (-127), 3) := by decide +kernel
theorem dX10_lives_313 : decode M_X10_lives.2.1 313 = .ok (.goto (-245), 3) := by decide +kernel
theorem dX10_lives_316 : decode M_X10_lives.2.1 316 = .ok (.aload_n 0, 1) := by decide +kernel
theorem dX10_lives_317 : decode M_X10_lives.2.1 317 = .ok (.getfield 83, 3) := by decide +kernel
theorem dX10_lives_320 : decode M_X10_lives.2.1 320 = .ok (.aload_n 0, 1) := by decide +kernel
theorem dX10_lives_321 : decode M_X10_lives.2.1 321 = .ok (.getfield 80, 3) := by decide +kernel
theorem dX10_lives_324 : decode M_X10_lives.2.1 324 = .ok (.iload_n 1, 1) := by decide +kernel
theorem dX10_lives_325 : decode M_X10_lives.2.1 325 = .ok (.iaload, 1) := by decide +kernel
theorem dX10_lives_326 : decode M_X10_lives.2.1 326 = .ok (.baload, 1) := by decide +kernel
theorem dX10_lives_327 : decode M_X10_lives.2.1 327 = .ok (.ireturn, 1) := by decide +kernel
def L_X10_lives_12 (X : ZX) (d n : Nat) (P : Option Value → ZSto → Prop) (x1 : Int) (x2 : Int) (σ : ZSto) : Prop := R32 x1 → R32 x2 → ZOk n σ → Zn X M_X10_lives d n P 12 [some (.ref (zB X + 73)), some (iV x1), some (iV x2), none, none, none] [] σ
def L_X10_lives_68 (X : ZX) (d n : Nat) (P : Option Value → ZSto → Prop) (x1 : Int) (x2 : Int) (σ : ZSto) : Prop := R32 x1 → R32 x2 → ZOk n σ → Zn X M_X10_lives d n P 68 [some (.ref (zB X + 73)), some (iV x1), some (iV x2), none, none, none] [] σ
def L_X10_lives_76 (X : ZX) (d n : Nat) (P : Option Value → ZSto → Prop) (x1 : Int) (x2 : Int) (x3 : Int) (σ : ZSto) : Prop := R32 x1 → R32 x2 → R32 x3 → ZOk n σ → Zn X M_X10_lives d n P 76 [some (.ref (zB X + 73)), some (iV x1), some (iV x2), some (iV x3), none, none] [] σ
def L_X10_lives_107 (X : ZX) (d n : Nat) (P : Option Value → ZSto → Prop) (x1 : Int) (x2 : Int) (x3 : Int) (x4 : Int) (x5 : Int) (σ : ZSto) : Prop := R32 x1 → R32 x2 → R32 x3 → R32 x4 → R32 x5 → ZOk n σ → Zn X M_X10_lives d n P 107 [some (.ref (zB X + 73)), some (iV x1), some (iV x2), some (iV x3), some (iV x4), some (iV x5)] [] σ
def L_X10_lives_183 (X : ZX) (d n : Nat) (P : Option Value → ZSto → Prop) (x1 : Int) (x2 : Int) (x3 : Int) (σ : ZSto) : Prop := R32 x1 → R32 x2 → R32 x3 → ZOk n σ → Zn X M_X10_lives d n P 183 [some (.ref (zB X + 73)), some (iV x1), some (iV x2), some (iV x3), none, none] [] σ
def L_X10_lives_225 (X : ZX) (d n : Nat) (P : Option Value → ZSto → Prop) (x1 : Int) (x2 : Int) (x3 : Int) (x4 : Int) (σ : ZSto) : Prop := R32 x1 → R32 x2 → R32 x3 → R32 x4 → ZOk n σ → Zn X M_X10_lives d n P 225 [some (.ref (zB X + 73)), some (iV x1), some (iV x2), some (iV x3), some (iV x4), none] [] σ
theorem w_X10_lives {X : ZX} {d n : Nat} {P : Int → ZSto → Prop} {x1 : Int} {σ : ZSto} (hn : 104 ≤ n)  (hx1 : R32 x1)
    (h : (0 ≤ x1 ∧ x1 < 81) ∧ ZkV X M_X10_regions d n [.ref (zB X + 73), iV (gI σ 84 x1.toNat)] σ (fun σ4 => L_X10_lives_12 X d n (zpZ P) x1 0 σ4)) :
    ZkZ X M_X10_lives (d + 1) n [.ref (zB X + 73), iV x1] σ P := by
  refine zk_of (ls := [some (.ref (zB X + 73)), some (iV x1), none, none, none, none]) pl_RX10 (Nat.le_of_ble_eq_true rfl) rfl (fun k0 => ?_)
  unfold Zn
  refine r_aload_n dX10_lives_0 rfl ?_
  refine r_aload_n dX10_lives_1 rfl ?_
  refine r_getP (a := 84) dX10_lives_2 kf_RX10_46 (zlt hn rfl) sh_73 rfl (k0.1 _ _ _ (zlt hn rfl) p_73_14) ?_
  refine r_iload_n dX10_lives_5 rfl ?_
  obtain ⟨h1, h2⟩ := h
  refine r_baloadE dX10_lives_6 (zlt hn rfl) sh_84 h1.1 h1.2 rfl ?_
  refine n_callV (N := M_X10_regions) (As := [iV (gI σ 84 x1.toNat)]) (st := []) dX10_lives_7 mk_X10_regions km_RX10_293 kd_X10_regions rfl (zlt hn rfl) sh_73 (q := (RX10, TX10, 52)) rfl rfl (zFits_rm d n n n (Nat.le_refl n)) (Nat.le_of_ble_eq_true rfl) rfl k0 h2 ?_
  rintro _ σ4 k5 ⟨rfl, h7⟩
  change Zm _ _ _ _ _ _ 10 _ [] _
  refine r_iconst dX10_lives_10 ?_
  refine r_istore_n dX10_lives_11 rfl rfl ?_
  exact r_mask [true, true, true, false, false, false] rfl (h7 hx1 (r32c rfl) k5)
theorem b_X10_lives_12 {X : ZX} {d n : Nat} {P : Int → ZSto → Prop} {x1 : Int} {x2 : Int} {σ : ZSto} (hn : 104 ≤ n) 
    (h : (81 ≤ x2 → L_X10_lives_68 X d n (zpZ P) x1 1 σ) ∧ (¬ (81 ≤ x2) → (0 ≤ x2 ∧ x2 < 81) ∧ (¬ gI σ 94 x2.toNat = x2 → (¬ gI σ 93 x2.toNat = x2 → R32 (x2 + 1) ∧ L_X10_lives_12 X d n (zpZ P) x1 (x2 + 1) (sI (sI σ 95 x2.toNat 0) 96 x2.toNat 0)) ∧ (gI σ 93 x2.toNat = x2 → R32 (x2 + 1) ∧ L_X10_lives_12 X d n (zpZ P) x1 (x2 + 1) (sI (sI σ 95 x2.toNat 0) 96 x2.toNat 1))) ∧ (gI σ 94 x2.toNat = x2 → (¬ gI σ 93 x2.toNat = x2 → R32 (x2 + 1) ∧ L_X10_lives_12 X d n (zpZ P) x1 (x2 + 1) (sI (sI σ 95 x2.toNat 1) 96 x2.toNat 0)) ∧ (gI σ 93 x2.toNat = x2 → R32 (x2 + 1) ∧ L_X10_lives_12 X d n (zpZ P) x1 (x2 + 1) (sI (sI σ 95 x2.toNat 1) 96 x2.toNat 1))))) :
    L_X10_lives_12 X d n (zpZ P) x1 x2 σ := by
  intro hx1 hx2 k0
  unfold Zn
  refine r_iload_n dX10_lives_12 rfl ?_
  refine r_bipush dX10_lives_13 rfl ?_
  refine r_icmp_ge (t := 66) dX10_lives_15 rfl hx2 (r32c rfl) (fun c1 => ?_) (fun c2 => ?_)
  · have h3 := h.1 c1
    refine r_iconst dX10_lives_66 ?_
    refine r_istore_n dX10_lives_67 rfl rfl ?_
    exact r_mask [true, true, true, false, false, false] rfl (h3 hx1 (r32c rfl) k0)
  · have h4 := h.2 c2
    refine r_aload_n dX10_lives_18 rfl ?_
    refine r_getP (a := 95) dX10_lives_19 kf_RX10_83 (zlt hn rfl) sh_73 rfl (k0.1 _ _ _ (zlt hn rfl) p_73_36) ?_
    refine r_iload_n dX10_lives_22 rfl ?_
    refine r_aload_n dX10_lives_23 rfl ?_
    refine r_getP (a := 94) dX10_lives_24 kf_RX10_80 (zlt hn rfl) sh_73 rfl (k0.1 _ _ _ (zlt hn rfl) p_73_35) ?_
    refine r_iload_n dX10_lives_27 rfl ?_
    obtain ⟨h5, h6⟩ := h4
    refine r_ialoadE dX10_lives_28 (zlt hn rfl) sh_94 h5.1 h5.2 rfl ?_
    refine r_iload_n dX10_lives_29 rfl ?_
    refine r_icmp_ne (t := 37) dX10_lives_30 rfl (k0.2.1 _ _) hx2 (fun c7 => ?_) (fun c8 => ?_)
    · have h9 := h6.1 c7
      refine r_iconst dX10_lives_37 ?_
      refine r_zastore dX10_lives_38 (zlt hn rfl) sh_95 h5.1 h5.2 (Or.inl rfl) ?_
      have k10 := zok_z (i := x2.toNat) (x := 0) k0 sh_95 (Or.inl rfl)
      refine r_aload_n dX10_lives_39 rfl ?_
      refine r_getP (a := 96) dX10_lives_40 kf_RX10_86 (zlt hn rfl) sh_73 rfl (k10.1 _ _ _ (zlt hn rfl) p_73_37) ?_
      refine r_iload_n dX10_lives_43 rfl ?_
      refine r_aload_n dX10_lives_44 rfl ?_
      refine r_getP (a := 93) dX10_lives_45 kf_RX10_77 (zlt hn rfl) sh_73 rfl (k10.1 _ _ _ (zlt hn rfl) p_73_34) ?_
      refine r_iload_n dX10_lives_48 rfl ?_
      refine r_ialoadE dX10_lives_49 (zlt hn rfl) sh_93 h5.1 h5.2 (gI_c (by decide)) ?_
      refine r_iload_n dX10_lives_50 rfl ?_
      refine r_icmp_ne (t := 58) dX10_lives_51 rfl (k0.2.1 _ _) hx2 (fun c11 => ?_) (fun c12 => ?_)
      · have h13 := h9.1 c11
        refine r_iconst dX10_lives_58 ?_
        refine r_zastore dX10_lives_59 (zlt hn rfl) sh_96 h5.1 h5.2 (Or.inl rfl) ?_
        have k14 := zok_z (i := x2.toNat) (x := 0) k10 sh_96 (Or.inl rfl)
        refine r_iinc dX10_lives_60 rfl rfl rfl ?_
        refine r_goto (t := 12) dX10_lives_63 rfl ?_
        obtain ⟨h15, h16⟩ := h13
        exact r_mask [true, true, true, false, false, false] rfl (h16 hx1 h15 k14)
      · have h17 := h9.2 c12
        refine r_iconst dX10_lives_54 ?_
        refine r_goto (t := 59) dX10_lives_55 rfl ?_
        refine r_zastore dX10_lives_59 (zlt hn rfl) sh_96 h5.1 h5.2 (Or.inr rfl) ?_
        have k18 := zok_z (i := x2.toNat) (x := 1) k10 sh_96 (Or.inr rfl)
        refine r_iinc dX10_lives_60 rfl rfl rfl ?_
        refine r_goto (t := 12) dX10_lives_63 rfl ?_
        obtain ⟨h19, h20⟩ := h17
        exact r_mask [true, true, true, false, false, false] rfl (h20 hx1 h19 k18)
    · have h21 := h6.2 c8
      refine r_iconst dX10_lives_33 ?_
      refine r_goto (t := 38) dX10_lives_34 rfl ?_
      refine r_zastore dX10_lives_38 (zlt hn rfl) sh_95 h5.1 h5.2 (Or.inr rfl) ?_
      have k22 := zok_z (i := x2.toNat) (x := 1) k0 sh_95 (Or.inr rfl)
      refine r_aload_n dX10_lives_39 rfl ?_
      refine r_getP (a := 96) dX10_lives_40 kf_RX10_86 (zlt hn rfl) sh_73 rfl (k22.1 _ _ _ (zlt hn rfl) p_73_37) ?_
      refine r_iload_n dX10_lives_43 rfl ?_
      refine r_aload_n dX10_lives_44 rfl ?_
      refine r_getP (a := 93) dX10_lives_45 kf_RX10_77 (zlt hn rfl) sh_73 rfl (k22.1 _ _ _ (zlt hn rfl) p_73_34) ?_
      refine r_iload_n dX10_lives_48 rfl ?_
      refine r_ialoadE dX10_lives_49 (zlt hn rfl) sh_93 h5.1 h5.2 (gI_c (by decide)) ?_
      refine r_iload_n dX10_lives_50 rfl ?_
      refine r_icmp_ne (t := 58) dX10_lives_51 rfl (k0.2.1 _ _) hx2 (fun c23 => ?_) (fun c24 => ?_)
      · have h25 := h21.1 c23
        refine r_iconst dX10_lives_58 ?_
        refine r_zastore dX10_lives_59 (zlt hn rfl) sh_96 h5.1 h5.2 (Or.inl rfl) ?_
        have k26 := zok_z (i := x2.toNat) (x := 0) k22 sh_96 (Or.inl rfl)
        refine r_iinc dX10_lives_60 rfl rfl rfl ?_
        refine r_goto (t := 12) dX10_lives_63 rfl ?_
        obtain ⟨h27, h28⟩ := h25
        exact r_mask [true, true, true, false, false, false] rfl (h28 hx1 h27 k26)
      · have h29 := h21.2 c24
        refine r_iconst dX10_lives_54 ?_
        refine r_goto (t := 59) dX10_lives_55 rfl ?_
        refine r_zastore dX10_lives_59 (zlt hn rfl) sh_96 h5.1 h5.2 (Or.inr rfl) ?_
        have k30 := zok_z (i := x2.toNat) (x := 1) k22 sh_96 (Or.inr rfl)
        refine r_iinc dX10_lives_60 rfl rfl rfl ?_
        refine r_goto (t := 12) dX10_lives_63 rfl ?_
        obtain ⟨h31, h32⟩ := h29
        exact r_mask [true, true, true, false, false, false] rfl (h32 hx1 h31 k30)
theorem b_X10_lives_68 {X : ZX} {d n : Nat} {P : Int → ZSto → Prop} {x1 : Int} {x2 : Int} {σ : ZSto} (hn : 104 ≤ n) 
    (h : (x2 = 0 → (0 ≤ x1 ∧ x1 < 81) ∧ (0 ≤ gI σ 94 x1.toNat ∧ gI σ 94 x1.toNat < 81) ∧ P (gI σ 95 ((gI σ 94 x1.toNat).toNat)) σ) ∧ (¬ (x2 = 0) → L_X10_lives_76 X d n (zpZ P) x1 0 0 σ)) :
    L_X10_lives_68 X d n (zpZ P) x1 x2 σ := by
  intro hx1 hx2 k0
  unfold Zn
  refine r_iload_n dX10_lives_68 rfl ?_
  refine r_if_eq (t := 316) dX10_lives_69 rfl hx2  (fun c1 => ?_) (fun c2 => ?_)
  · have h3 := h.1 c1
    refine r_aload_n dX10_lives_316 rfl ?_
    refine r_getP (a := 95) dX10_lives_317 kf_RX10_83 (zlt hn rfl) sh_73 rfl (k0.1 _ _ _ (zlt hn rfl) p_73_36) ?_
    refine r_aload_n dX10_lives_320 rfl ?_
    refine r_getP (a := 94) dX10_lives_321 kf_RX10_80 (zlt hn rfl) sh_73 rfl (k0.1 _ _ _ (zlt hn rfl) p_73_35) ?_
    refine r_iload_n dX10_lives_324 rfl ?_
    obtain ⟨h4, h5⟩ := h3
    refine r_ialoadE dX10_lives_325 (zlt hn rfl) sh_94 h4.1 h4.2 rfl ?_
    obtain ⟨h6, h7⟩ := h5
    refine r_zaloadE dX10_lives_326 (zlt hn rfl) sh_95 h6.1 h6.2 rfl ?_
    exact r_zreturn dX10_lives_327 rfl (zok_bz k0 sh_95) ⟨k0, _, rfl, (zok_bz k0 sh_95), h7⟩
  · have h8 := h.2 c2
    refine r_iconst dX10_lives_72 ?_
    refine r_istore_n dX10_lives_73 rfl rfl ?_
    refine r_iconst dX10_lives_74 ?_
    refine r_istore_n dX10_lives_75 rfl rfl ?_
    exact r_mask [true, true, true, true, false, false] rfl (h8 hx1 (r32c rfl) (r32c rfl) k0)
theorem b_X10_lives_76 {X : ZX} {d n : Nat} {P : Int → ZSto → Prop} {x1 : Int} {x2 : Int} {x3 : Int} {σ : ZSto} (hn : 104 ≤ n) 
    (h : R32 ((gI σ 73 13) * (gI σ 73 13)) ∧ ((gI σ 73 13) * (gI σ 73 13) ≤ x3 → L_X10_lives_183 X d n (zpZ P) x1 x2 0 σ) ∧ (¬ ((gI σ 73 13) * (gI σ 73 13) ≤ x3) → (0 ≤ x3 ∧ x3 < 81) ∧ (¬ gI σ 95 x3.toNat = 0 → L_X10_lives_107 X d n (zpZ P) x1 x2 x3 0 0 σ) ∧ (gI σ 95 x3.toNat = 0 → R32 (x3 + 1) ∧ L_X10_lives_76 X d n (zpZ P) x1 x2 (x3 + 1) σ))) :
    L_X10_lives_76 X d n (zpZ P) x1 x2 x3 σ := by
  intro hx1 hx2 hx3 k0
  unfold Zn
  refine r_iload_n dX10_lives_76 rfl ?_
  refine r_aload_n dX10_lives_77 rfl ?_
  refine r_getI dX10_lives_78 kf_RX10_139 (zlt hn rfl) sh_73 (Or.inl rfl) rfl ?_
  refine r_aload_n dX10_lives_81 rfl ?_
  refine r_getI dX10_lives_82 kf_RX10_139 (zlt hn rfl) sh_73 (Or.inl rfl) rfl ?_
  refine r_imul dX10_lives_85 ?_
  obtain ⟨h1, h2⟩ := h
  refine r_icmp_ge (t := 181) dX10_lives_86 rfl hx3 h1 (fun c3 => ?_) (fun c4 => ?_)
  · have h5 := h2.1 c3
    refine r_iconst dX10_lives_181 ?_
    refine r_istore_n dX10_lives_182 rfl rfl ?_
    exact r_mask [true, true, true, true, false, false] rfl (h5 hx1 hx2 (r32c rfl) k0)
  · have h6 := h2.2 c4
    refine r_aload_n dX10_lives_89 rfl ?_
    refine r_getP (a := 95) dX10_lives_90 kf_RX10_83 (zlt hn rfl) sh_73 rfl (k0.1 _ _ _ (zlt hn rfl) p_73_36) ?_
    refine r_iload_n dX10_lives_93 rfl ?_
    obtain ⟨h7, h8⟩ := h6
    refine r_zaloadE dX10_lives_94 (zlt hn rfl) sh_95 h7.1 h7.2 rfl ?_
    refine r_if_ne (t := 101) dX10_lives_95 rfl (k0.2.1 _ _)  (fun c9 => ?_) (fun c10 => ?_)
    · have h11 := h8.1 c9
      refine r_iconst dX10_lives_101 ?_
      refine r_istore dX10_lives_102 rfl rfl ?_
      refine r_iconst dX10_lives_104 ?_
      refine r_istore dX10_lives_105 rfl rfl ?_
      exact r_mask [true, true, true, true, true, true] rfl (h11 hx1 hx2 hx3 (r32c rfl) (r32c rfl) k0)
    · have h12 := h8.2 c10
      refine r_goto (t := 175) dX10_lives_98 rfl ?_
      refine r_iinc dX10_lives_175 rfl rfl rfl ?_
      refine r_goto (t := 76) dX10_lives_178 rfl ?_
      obtain ⟨h13, h14⟩ := h12
      exact r_mask [true, true, true, true, false, false] rfl (h14 hx1 hx2 h13 k0)
theorem b_X10_lives_107 {X : ZX} {d n : Nat} {P : Int → ZSto → Prop} {x1 : Int} {x2 : Int} {x3 : Int} {x4 : Int} {x5 : Int} {σ : ZSto} (hn : 104 ≤ n) 
    (h : R32 ((gI σ 73 13) * (gI σ 73 13)) ∧ ((gI σ 73 13) * (gI σ 73 13) ≤ x5 → (x4 < 2 → (0 ≤ x3 ∧ x3 < 81) ∧ R32 (x3 + 1) ∧ L_X10_lives_76 X d n (zpZ P) x1 1 (x3 + 1) (sI σ 95 x3.toNat 0)) ∧ (¬ (x4 < 2) → R32 (x3 + 1) ∧ L_X10_lives_76 X d n (zpZ P) x1 x2 (x3 + 1) σ)) ∧ (¬ ((gI σ 73 13) * (gI σ 73 13) ≤ x5) → (0 ≤ x5 ∧ x5 < 81) ∧ (gI σ 96 x5.toNat = 0 → R32 (x4 + 0) ∧ R32 (x5 + 1) ∧ L_X10_lives_107 X d n (zpZ P) x1 x2 x3 (x4 + 0) (x5 + 1) σ) ∧ (¬ (gI σ 96 x5.toNat = 0) → ZkZ X M_X10_isVital d n [.ref (zB X + 73), iV x5, iV x3] σ (fun v28 σ29 => (v28 = 0 → R32 (x4 + 0) ∧ R32 (x5 + 1) ∧ L_X10_lives_107 X d n (zpZ P) x1 x2 x3 (x4 + 0) (x5 + 1) σ29) ∧ (¬ (v28 = 0) → R32 (x4 + 1) ∧ R32 (x5 + 1) ∧ L_X10_lives_107 X d n (zpZ P) x1 x2 x3 (x4 + 1) (x5 + 1) σ29))))) :
    L_X10_lives_107 X d n (zpZ P) x1 x2 x3 x4 x5 σ := by
  intro hx1 hx2 hx3 hx4 hx5 k0
  unfold Zn
  refine r_iload dX10_lives_107 rfl ?_
  refine r_aload_n dX10_lives_109 rfl ?_
  refine r_getI dX10_lives_110 kf_RX10_139 (zlt hn rfl) sh_73 (Or.inl rfl) rfl ?_
  refine r_aload_n dX10_lives_113 rfl ?_
  refine r_getI dX10_lives_114 kf_RX10_139 (zlt hn rfl) sh_73 (Or.inl rfl) rfl ?_
  refine r_imul dX10_lives_117 ?_
  obtain ⟨h1, h2⟩ := h
  refine r_icmp_ge (t := 157) dX10_lives_118 rfl hx5 h1 (fun c3 => ?_) (fun c4 => ?_)
  · have h5 := h2.1 c3
    refine r_iload dX10_lives_157 rfl ?_
    refine r_iconst dX10_lives_159 ?_
    refine r_icmp_lt (t := 166) dX10_lives_160 rfl hx4 (r32c rfl) (fun c6 => ?_) (fun c7 => ?_)
    · have h8 := h5.1 c6
      refine r_aload_n dX10_lives_166 rfl ?_
      refine r_getP (a := 95) dX10_lives_167 kf_RX10_83 (zlt hn rfl) sh_73 rfl (k0.1 _ _ _ (zlt hn rfl) p_73_36) ?_
      refine r_iload_n dX10_lives_170 rfl ?_
      refine r_iconst dX10_lives_171 ?_
      obtain ⟨h9, h10⟩ := h8
      refine r_zastore dX10_lives_172 (zlt hn rfl) sh_95 h9.1 h9.2 (Or.inl rfl) ?_
      have k11 := zok_z (i := x3.toNat) (x := 0) k0 sh_95 (Or.inl rfl)
      refine r_iconst dX10_lives_173 ?_
      refine r_istore_n dX10_lives_174 rfl rfl ?_
      refine r_iinc dX10_lives_175 rfl rfl rfl ?_
      refine r_goto (t := 76) dX10_lives_178 rfl ?_
      obtain ⟨h12, h13⟩ := h10
      exact r_mask [true, true, true, true, false, false] rfl (h13 hx1 (r32c rfl) h12 k11)
    · have h14 := h5.2 c7
      refine r_goto (t := 175) dX10_lives_163 rfl ?_
      refine r_iinc dX10_lives_175 rfl rfl rfl ?_
      refine r_goto (t := 76) dX10_lives_178 rfl ?_
      obtain ⟨h15, h16⟩ := h14
      exact r_mask [true, true, true, true, false, false] rfl (h16 hx1 hx2 h15 k0)
  · have h17 := h2.2 c4
    refine r_iload dX10_lives_121 rfl ?_
    refine r_aload_n dX10_lives_123 rfl ?_
    refine r_getP (a := 96) dX10_lives_124 kf_RX10_86 (zlt hn rfl) sh_73 rfl (k0.1 _ _ _ (zlt hn rfl) p_73_37) ?_
    refine r_iload dX10_lives_127 rfl ?_
    obtain ⟨h18, h19⟩ := h17
    refine r_zaloadE dX10_lives_129 (zlt hn rfl) sh_96 h18.1 h18.2 rfl ?_
    refine r_if_eq (t := 147) dX10_lives_130 rfl (k0.2.1 _ _)  (fun c20 => ?_) (fun c21 => ?_)
    · have h22 := h19.1 c20
      refine r_iconst dX10_lives_147 ?_
      refine r_iadd dX10_lives_148 ?_
      refine r_istore dX10_lives_149 rfl rfl ?_
      refine r_iinc dX10_lives_151 rfl rfl rfl ?_
      refine r_goto (t := 107) dX10_lives_154 rfl ?_
      obtain ⟨h23, h24⟩ := h22
      obtain ⟨h25, h26⟩ := h24
      exact r_mask [true, true, true, true, true, true] rfl (h26 hx1 hx2 hx3 h23 h25 k0)
    · have h27 := h19.2 c21
      refine r_aload_n dX10_lives_133 rfl ?_
      refine r_iload dX10_lives_134 rfl ?_
      refine r_iload_n dX10_lives_136 rfl ?_
      refine n_callV (N := M_X10_isVital) (As := [iV x5, iV x3]) (st := [iV x4]) dX10_lives_137 mk_X10_isVital km_RX10_296 kd_X10_isVital rfl (zlt hn rfl) sh_73 (q := (RX10, TX10, 52)) rfl rfl (zFits_rm d n n n (Nat.le_refl n)) (Nat.le_of_ble_eq_true rfl) rfl k0 h27 ?_
      rintro _ σ29 k30 ⟨v28, rfl, h31, h32⟩
      change Zm _ _ _ _ _ _ 140 _ [iV v28, iV x4] _
      refine r_if_eq (t := 147) dX10_lives_140 rfl (r32_z h31)  (fun c33 => ?_) (fun c34 => ?_)
      · have h35 := h32.1 c33
        refine r_iconst dX10_lives_147 ?_
        refine r_iadd dX10_lives_148 ?_
        refine r_istore dX10_lives_149 rfl rfl ?_
        refine r_iinc dX10_lives_151 rfl rfl rfl ?_
        refine r_goto (t := 107) dX10_lives_154 rfl ?_
        obtain ⟨h36, h37⟩ := h35
        obtain ⟨h38, h39⟩ := h37
        exact r_mask [true, true, true, true, true, true] rfl (h39 hx1 hx2 hx3 h36 h38 k30)
      · have h40 := h32.2 c34
        refine r_iconst dX10_lives_143 ?_
        refine r_goto (t := 148) dX10_lives_144 rfl ?_
        refine r_iadd dX10_lives_148 ?_
        refine r_istore dX10_lives_149 rfl rfl ?_
        refine r_iinc dX10_lives_151 rfl rfl rfl ?_
        refine r_goto (t := 107) dX10_lives_154 rfl ?_
        obtain ⟨h41, h42⟩ := h40
        obtain ⟨h43, h44⟩ := h42
        exact r_mask [true, true, true, true, true, true] rfl (h44 hx1 hx2 hx3 h41 h43 k30)
theorem b_X10_lives_183 {X : ZX} {d n : Nat} {P : Int → ZSto → Prop} {x1 : Int} {x2 : Int} {x3 : Int} {σ : ZSto} (hn : 104 ≤ n) 
    (h : R32 ((gI σ 73 13) * (gI σ 73 13)) ∧ ((gI σ 73 13) * (gI σ 73 13) ≤ x3 → L_X10_lives_68 X d n (zpZ P) x1 x2 σ) ∧ (¬ ((gI σ 73 13) * (gI σ 73 13) ≤ x3) → (0 ≤ x3 ∧ x3 < 81) ∧ (gI σ 93 x3.toNat < 0 → R32 (x3 + 1) ∧ L_X10_lives_183 X d n (zpZ P) x1 x2 (x3 + 1) σ) ∧ (¬ (gI σ 93 x3.toNat < 0) → (0 ≤ gI σ 93 x3.toNat ∧ gI σ 93 x3.toNat < 81) ∧ (¬ gI σ 96 ((gI σ 93 x3.toNat).toNat) = 0 → L_X10_lives_225 X d n (zpZ P) x1 x2 x3 0 σ) ∧ (gI σ 96 ((gI σ 93 x3.toNat).toNat) = 0 → R32 (x3 + 1) ∧ L_X10_lives_183 X d n (zpZ P) x1 x2 (x3 + 1) σ)))) :
    L_X10_lives_183 X d n (zpZ P) x1 x2 x3 σ := by
  intro hx1 hx2 hx3 k0
  unfold Zn
  refine r_iload_n dX10_lives_183 rfl ?_
  refine r_aload_n dX10_lives_184 rfl ?_
  refine r_getI dX10_lives_185 kf_RX10_139 (zlt hn rfl) sh_73 (Or.inl rfl) rfl ?_
  refine r_aload_n dX10_lives_188 rfl ?_
  refine r_getI dX10_lives_189 kf_RX10_139 (zlt hn rfl) sh_73 (Or.inl rfl) rfl ?_
  refine r_imul dX10_lives_192 ?_
  obtain ⟨h1, h2⟩ := h
  refine r_icmp_ge (t := 313) dX10_lives_193 rfl hx3 h1 (fun c3 => ?_) (fun c4 => ?_)
  · have h5 := h2.1 c3
    refine r_goto (t := 68) dX10_lives_313 rfl ?_
    exact r_mask [true, true, true, false, false, false] rfl (h5 hx1 hx2 k0)
  · have h6 := h2.2 c4
    refine r_aload_n dX10_lives_196 rfl ?_
    refine r_getP (a := 93) dX10_lives_197 kf_RX10_77 (zlt hn rfl) sh_73 rfl (k0.1 _ _ _ (zlt hn rfl) p_73_34) ?_
    refine r_iload_n dX10_lives_200 rfl ?_
    obtain ⟨h7, h8⟩ := h6
    refine r_ialoadE dX10_lives_201 (zlt hn rfl) sh_93 h7.1 h7.2 rfl ?_
    refine r_if_lt (t := 307) dX10_lives_202 rfl (k0.2.1 _ _)  (fun c9 => ?_) (fun c10 => ?_)
    · have h11 := h8.1 c9
      refine r_iinc dX10_lives_307 rfl rfl rfl ?_
      refine r_goto (t := 183) dX10_lives_310 rfl ?_
      obtain ⟨h12, h13⟩ := h11
      exact r_mask [true, true, true, true, false, false] rfl (h13 hx1 hx2 h12 k0)
    · have h14 := h8.2 c10
      refine r_aload_n dX10_lives_205 rfl ?_
      refine r_getP (a := 96) dX10_lives_206 kf_RX10_86 (zlt hn rfl) sh_73 rfl (k0.1 _ _ _ (zlt hn rfl) p_73_37) ?_
      refine r_aload_n dX10_lives_209 rfl ?_
      refine r_getP (a := 93) dX10_lives_210 kf_RX10_77 (zlt hn rfl) sh_73 rfl (k0.1 _ _ _ (zlt hn rfl) p_73_34) ?_
      refine r_iload_n dX10_lives_213 rfl ?_
      refine r_ialoadE dX10_lives_214 (zlt hn rfl) sh_93 h7.1 h7.2 rfl ?_
      obtain ⟨h15, h16⟩ := h14
      refine r_zaloadE dX10_lives_215 (zlt hn rfl) sh_96 h15.1 h15.2 rfl ?_
      refine r_if_ne (t := 222) dX10_lives_216 rfl (k0.2.1 _ _)  (fun c17 => ?_) (fun c18 => ?_)
      · have h19 := h16.1 c17
        refine r_iconst dX10_lives_222 ?_
        refine r_istore dX10_lives_223 rfl rfl ?_
        exact r_mask [true, true, true, true, true, false] rfl (h19 hx1 hx2 hx3 (r32c rfl) k0)
      · have h20 := h16.2 c18
        refine r_goto (t := 307) dX10_lives_219 rfl ?_
        refine r_iinc dX10_lives_307 rfl rfl rfl ?_
        refine r_goto (t := 183) dX10_lives_310 rfl ?_
        obtain ⟨h21, h22⟩ := h20
        exact r_mask [true, true, true, true, false, false] rfl (h22 hx1 hx2 h21 k0)
theorem b_X10_lives_225 {X : ZX} {d n : Nat} {P : Int → ZSto → Prop} {x1 : Int} {x2 : Int} {x3 : Int} {x4 : Int} {σ : ZSto} (hn : 104 ≤ n) 
    (h : (4 ≤ x4 → R32 (x3 + 1) ∧ L_X10_lives_183 X d n (zpZ P) x1 x2 (x3 + 1) σ) ∧ (¬ (4 ≤ x4) → ZkI X M_X10_beside d n [.ref (zB X + 73), iV x3, iV x4] σ (fun v7 σ8 => (v7 < 0 → R32 (x4 + 1) ∧ L_X10_lives_225 X d n (zpZ P) x1 x2 x3 (x4 + 1) σ8) ∧ (¬ (v7 < 0) → (0 ≤ v7 ∧ v7 < 81) ∧ (gI σ8 94 v7.toNat < 0 → R32 (x4 + 1) ∧ L_X10_lives_225 X d n (zpZ P) x1 x2 x3 (x4 + 1) σ8) ∧ (¬ (gI σ8 94 v7.toNat < 0) → (0 ≤ gI σ8 94 v7.toNat ∧ gI σ8 94 v7.toNat < 81) ∧ (¬ gI σ8 95 ((gI σ8 94 v7.toNat).toNat) = 0 → R32 (x4 + 1) ∧ L_X10_lives_225 X d n (zpZ P) x1 x2 x3 (x4 + 1) σ8) ∧ (gI σ8 95 ((gI σ8 94 v7.toNat).toNat) = 0 → (0 ≤ x3 ∧ x3 < 81) ∧ (0 ≤ gI σ8 93 x3.toNat ∧ gI σ8 93 x3.toNat < 81) ∧ (¬ gI σ8 96 ((gI σ8 93 x3.toNat).toNat) = 0 → R32 (x4 + 1) ∧ L_X10_lives_225 X d n (zpZ P) x1 1 x3 (x4 + 1) (sI σ8 96 ((gI σ8 93 x3.toNat).toNat) 0)) ∧ (gI σ8 96 ((gI σ8 93 x3.toNat).toNat) = 0 → R32 (x4 + 1) ∧ L_X10_lives_225 X d n (zpZ P) x1 x2 x3 (x4 + 1) σ8))))))) :
    L_X10_lives_225 X d n (zpZ P) x1 x2 x3 x4 σ := by
  intro hx1 hx2 hx3 hx4 k0
  unfold Zn
  refine r_iload dX10_lives_225 rfl ?_
  refine r_iconst dX10_lives_227 ?_
  refine r_icmp_ge (t := 307) dX10_lives_228 rfl hx4 (r32c rfl) (fun c1 => ?_) (fun c2 => ?_)
  · have h3 := h.1 c1
    refine r_iinc dX10_lives_307 rfl rfl rfl ?_
    refine r_goto (t := 183) dX10_lives_310 rfl ?_
    obtain ⟨h4, h5⟩ := h3
    exact r_mask [true, true, true, true, false, false] rfl (h5 hx1 hx2 h4 k0)
  · have h6 := h.2 c2
    refine r_aload_n dX10_lives_231 rfl ?_
    refine r_iload_n dX10_lives_232 rfl ?_
    refine r_iload dX10_lives_233 rfl ?_
    refine n_callV (N := M_X10_beside) (As := [iV x3, iV x4]) (st := []) dX10_lives_235 mk_X10_beside km_RX10_142 kd_X10_beside rfl (zlt hn rfl) sh_73 (q := (RX10, TX10, 52)) rfl rfl (zFits_rm d n n n (Nat.le_refl n)) (Nat.le_of_ble_eq_true rfl) rfl k0 h6 ?_
    rintro _ σ8 k9 ⟨v7, rfl, h10, h11⟩
    change Zm _ _ _ _ _ _ 238 _ [iV v7] _
    refine r_istore dX10_lives_238 rfl rfl ?_
    refine r_iload dX10_lives_240 rfl ?_
    refine r_if_lt (t := 301) dX10_lives_242 rfl h10  (fun c12 => ?_) (fun c13 => ?_)
    · have h14 := h11.1 c12
      refine r_iinc dX10_lives_301 rfl rfl rfl ?_
      refine r_goto (t := 225) dX10_lives_304 rfl ?_
      obtain ⟨h15, h16⟩ := h14
      exact r_mask [true, true, true, true, true, false] rfl (h16 hx1 hx2 hx3 h15 k9)
    · have h17 := h11.2 c13
      refine r_aload_n dX10_lives_245 rfl ?_
      refine r_getP (a := 94) dX10_lives_246 kf_RX10_80 (zlt hn rfl) sh_73 rfl (k9.1 _ _ _ (zlt hn rfl) p_73_35) ?_
      refine r_iload dX10_lives_249 rfl ?_
      obtain ⟨h18, h19⟩ := h17
      refine r_ialoadE dX10_lives_251 (zlt hn rfl) sh_94 h18.1 h18.2 rfl ?_
      refine r_if_lt (t := 301) dX10_lives_252 rfl (k9.2.1 _ _)  (fun c20 => ?_) (fun c21 => ?_)
      · have h22 := h19.1 c20
        refine r_iinc dX10_lives_301 rfl rfl rfl ?_
        refine r_goto (t := 225) dX10_lives_304 rfl ?_
        obtain ⟨h23, h24⟩ := h22
        exact r_mask [true, true, true, true, true, false] rfl (h24 hx1 hx2 hx3 h23 k9)
      · have h25 := h19.2 c21
        refine r_aload_n dX10_lives_255 rfl ?_
        refine r_getP (a := 95) dX10_lives_256 kf_RX10_83 (zlt hn rfl) sh_73 rfl (k9.1 _ _ _ (zlt hn rfl) p_73_36) ?_
        refine r_aload_n dX10_lives_259 rfl ?_
        refine r_getP (a := 94) dX10_lives_260 kf_RX10_80 (zlt hn rfl) sh_73 rfl (k9.1 _ _ _ (zlt hn rfl) p_73_35) ?_
        refine r_iload dX10_lives_263 rfl ?_
        refine r_ialoadE dX10_lives_265 (zlt hn rfl) sh_94 h18.1 h18.2 rfl ?_
        obtain ⟨h26, h27⟩ := h25
        refine r_zaloadE dX10_lives_266 (zlt hn rfl) sh_95 h26.1 h26.2 rfl ?_
        refine r_if_ne (t := 301) dX10_lives_267 rfl (k9.2.1 _ _)  (fun c28 => ?_) (fun c29 => ?_)
        · have h30 := h27.1 c28
          refine r_iinc dX10_lives_301 rfl rfl rfl ?_
          refine r_goto (t := 225) dX10_lives_304 rfl ?_
          obtain ⟨h31, h32⟩ := h30
          exact r_mask [true, true, true, true, true, false] rfl (h32 hx1 hx2 hx3 h31 k9)
        · have h33 := h27.2 c29
          refine r_aload_n dX10_lives_270 rfl ?_
          refine r_getP (a := 96) dX10_lives_271 kf_RX10_86 (zlt hn rfl) sh_73 rfl (k9.1 _ _ _ (zlt hn rfl) p_73_37) ?_
          refine r_aload_n dX10_lives_274 rfl ?_
          refine r_getP (a := 93) dX10_lives_275 kf_RX10_77 (zlt hn rfl) sh_73 rfl (k9.1 _ _ _ (zlt hn rfl) p_73_34) ?_
          refine r_iload_n dX10_lives_278 rfl ?_
          obtain ⟨h34, h35⟩ := h33
          refine r_ialoadE dX10_lives_279 (zlt hn rfl) sh_93 h34.1 h34.2 rfl ?_
          obtain ⟨h36, h37⟩ := h35
          refine r_zaloadE dX10_lives_280 (zlt hn rfl) sh_96 h36.1 h36.2 rfl ?_
          refine r_if_ne (t := 287) dX10_lives_281 rfl (k9.2.1 _ _)  (fun c38 => ?_) (fun c39 => ?_)
          · have h40 := h37.1 c38
            refine r_aload_n dX10_lives_287 rfl ?_
            refine r_getP (a := 96) dX10_lives_288 kf_RX10_86 (zlt hn rfl) sh_73 rfl (k9.1 _ _ _ (zlt hn rfl) p_73_37) ?_
            refine r_aload_n dX10_lives_291 rfl ?_
            refine r_getP (a := 93) dX10_lives_292 kf_RX10_77 (zlt hn rfl) sh_73 rfl (k9.1 _ _ _ (zlt hn rfl) p_73_34) ?_
            refine r_iload_n dX10_lives_295 rfl ?_
            refine r_ialoadE dX10_lives_296 (zlt hn rfl) sh_93 h34.1 h34.2 rfl ?_
            refine r_iconst dX10_lives_297 ?_
            refine r_zastore dX10_lives_298 (zlt hn rfl) sh_96 h36.1 h36.2 (Or.inl rfl) ?_
            have k41 := zok_z (i := (gI σ8 93 x3.toNat).toNat) (x := 0) k9 sh_96 (Or.inl rfl)
            refine r_iconst dX10_lives_299 ?_
            refine r_istore_n dX10_lives_300 rfl rfl ?_
            refine r_iinc dX10_lives_301 rfl rfl rfl ?_
            refine r_goto (t := 225) dX10_lives_304 rfl ?_
            obtain ⟨h42, h43⟩ := h40
            exact r_mask [true, true, true, true, true, false] rfl (h43 hx1 (r32c rfl) hx3 h42 k41)
          · have h44 := h37.2 c39
            refine r_goto (t := 301) dX10_lives_284 rfl ?_
            refine r_iinc dX10_lives_301 rfl rfl rfl ?_
            refine r_goto (t := 225) dX10_lives_304 rfl ?_
            obtain ⟨h45, h46⟩ := h44
            exact r_mask [true, true, true, true, true, false] rfl (h46 hx1 hx2 hx3 h45 k9)
/-! StoneRoomModel.region -/
theorem dX10_region_0 : decode M_X10_region.2.1 0 = .ok (.aload_n 0, 1) := by decide +kernel
theorem dX10_region_1 : decode M_X10_region.2.1 1 = .ok (.invokevirtual 275, 3) := by decide +kernel
theorem dX10_region_4 : decode M_X10_region.2.1 4 = .ok (.ifCond .eq 31, 3) := by decide +kernel
theorem dX10_region_7 : decode M_X10_region.2.1 7 = .ok (.iload_n 1, 1) := by decide +kernel
theorem dX10_region_8 : decode M_X10_region.2.1 8 = .ok (.iconst 1, 1) := by decide +kernel
theorem dX10_region_9 : decode M_X10_region.2.1 9 = .ok (.if_icmp .lt 26, 3) := by decide +kernel
theorem dX10_region_12 : decode M_X10_region.2.1 12 = .ok (.iload_n 1, 1) := by decide +kernel
theorem dX10_region_13 : decode M_X10_region.2.1 13 = .ok (.iconst 2, 1) := by decide +kernel
theorem dX10_region_14 : decode M_X10_region.2.1 14 = .ok (.if_icmp .gt 21, 3) := by decide +kernel
theorem dX10_region_17 : decode M_X10_region.2.1 17 = .ok (.aload_n 0, 1) := by decide +kernel
theorem dX10_region_18 : decode M_X10_region.2.1 18 = .ok (.iload_n 2, 1) := by decide +kernel
theorem dX10_region_19 : decode M_X10_region.2.1 19 = .ok (.invokevirtual 278, 3) := by decide +kernel
theorem dX10_region_22 : decode M_X10_region.2.1 22 = .ok (.ifCond .eq 13, 3) := by decide +kernel
theorem dX10_region_25 : decode M_X10_region.2.1 25 = .ok (.aload_n 0, 1) := by decide +kernel
theorem dX10_region_26 : decode M_X10_region.2.1 26 = .ok (.getfield 46, 3) := by decide +kernel
theorem dX10_region_29 : decode M_X10_region.2.1 29 = .ok (.iload_n 2, 1) := by decide +kernel
theorem dX10_region_30 : decode M_X10_region.2.1 30 = .ok (.baload, 1) := by decide +kernel
theorem dX10_region_31 : decode M_X10_region.2.1 31 = .ok (.iload_n 1, 1) := by decide +kernel
theorem dX10_region_32 : decode M_X10_region.2.1 32 = .ok (.if_icmp .ne 5, 3) := by decide +kernel
theorem dX10_region_35 : decode M_X10_region.2.1 35 = .ok (.iconst (-1), 1) := by decide +kernel
theorem dX10_region_36 : decode M_X10_region.2.1 36 = .ok (.ireturn, 1) := by decide +kernel
theorem dX10_region_37 : decode M_X10_region.2.1 37 = .ok (.aload_n 0, 1) := by decide +kernel
theorem dX10_region_38 : decode M_X10_region.2.1 38 = .ok (.iload_n 1, 1) := by decide +kernel
theorem dX10_region_39 : decode M_X10_region.2.1 39 = .ok (.invokevirtual 293, 3) := by decide +kernel
theorem dX10_region_42 : decode M_X10_region.2.1 42 = .ok (.aload_n 0, 1) := by decide +kernel
theorem dX10_region_43 : decode M_X10_region.2.1 43 = .ok (.getfield 77, 3) := by decide +kernel
theorem dX10_region_46 : decode M_X10_region.2.1 46 = .ok (.iload_n 2, 1) := by decide +kernel
theorem dX10_region_47 : decode M_X10_region.2.1 47 = .ok (.iaload, 1) := by decide +kernel
theorem dX10_region_48 : decode M_X10_region.2.1 48 = .ok (.istore 4, 2) := by decide +kernel
theorem dX10_region_50 : decode M_X10_region.2.1 50 = .ok (.iconst 0, 1) := by decide +kernel
theorem dX10_region_51 : decode M_X10_region.2.1 51 = .ok (.istore 5, 2) := by decide +kernel
theorem dX10_region_53 : decode M_X10_region.2.1 53 = .ok (.iload_n 3, 1) := by decide +kernel
theorem dX10_region_54 : decode M_X10_region.2.1 54 = .ok (.tableswitch 198 0 3 #[30, 33, 81, 139], 30) := by decide +kernel
theorem dX10_region_84 : decode M_X10_region.2.1 84 = .ok (.iload 4, 2) := by decide +kernel
theorem dX10_region_86 : decode M_X10_region.2.1 86 = .ok (.ireturn, 1) := by decide +kernel
theorem dX10_region_87 : decode M_X10_region.2.1 87 = .ok (.iconst 0, 1) := by decide +kernel
theorem dX10_region_88 : decode M_X10_region.2.1 88 = .ok (.istore 6, 2) := by decide +kernel
theorem dX10_region_90 : decode M_X10_region.2.1 90 = .ok (.iload 6, 2) := by decide +kernel
theorem dX10_region_92 : decode M_X10_region.2.1 92 = .ok (.aload_n 0, 1) := by decide +kernel
theorem dX10_region_93 : decode M_X10_region.2.1 93 = .ok (.getfield 139, 3) := by decide +kernel
theorem dX10_region_96 : decode M_X10_region.2.1 96 = .ok (.aload_n 0, 1) := by decide +kernel
theorem dX10_region_97 : decode M_X10_region.2.1 97 = .ok (.getfield 139, 3) := by decide +kernel
theorem dX10_region_100 : decode M_X10_region.2.1 100 = .ok (.imul, 1) := by decide +kernel
theorem dX10_region_101 : decode M_X10_region.2.1 101 = .ok (.if_icmp .ge 31, 3) := by decide +kernel
theorem dX10_region_104 : decode M_X10_region.2.1 104 = .ok (.iload 5, 2) := by decide +kernel
theorem dX10_region_106 : decode M_X10_region.2.1 106 = .ok (.aload_n 0, 1) := by decide +kernel
theorem dX10_region_107 : decode M_X10_region.2.1 107 = .ok (.getfield 77, 3) := by decide +kernel
theorem dX10_region_110 : decode M_X10_region.2.1 110 = .ok (.iload 6, 2) := by decide +kernel
theorem dX10_region_112 : decode M_X10_region.2.1 112 = .ok (.iaload, 1) := by decide +kernel
theorem dX10_region_113 : decode M_X10_region.2.1 113 = .ok (.iload 4, 2) := by decide +kernel
theorem dX10_region_115 : decode M_X10_region.2.1 115 = .ok (.if_icmp .ne 7, 3) := by decide +kernel
theorem dX10_region_118 : decode M_X10_region.2.1 118 = .ok (.iconst 1, 1) := by decide +kernel
theorem dX10_region_119 : decode M_X10_region.2.1 119 = .ok (.goto 4, 3) := by decide +kernel
theorem dX10_region_122 : decode M_X10_region.2.1 122 = .ok (.iconst 0, 1) := by decide +kernel
theorem dX10_region_123 : decode M_X10_region.2.1 123 = .ok (.iadd, 1) := by decide +kernel
theorem dX10_region_124 : decode M_X10_region.2.1 124 = .ok (.istore 5, 2) := by decide +kernel
theorem dX10_region_126 : decode M_X10_region.2.1 126 = .ok (.iinc 6 1, 3) := by decide +kernel
theorem dX10_region_129 : decode M_X10_region.2.1 129 = .ok (.goto (-39), 3) := by decide +kernel
theorem dX10_region_132 : decode M_X10_region.2.1 132 = .ok (.iload 5, 2) := by decide +kernel
theorem dX10_region_134 : decode M_X10_region.2.1 134 = .ok (.ireturn, 1) := by decide +kernel
theorem dX10_region_135 : decode M_X10_region.2.1 135 = .ok (.iconst 0, 1) := by decide +kernel
theorem dX10_region_136 : decode M_X10_region.2.1 136 = .ok (.istore 6, 2) := by decide +kernel
theorem dX10_region_138 : decode M_X10_region.2.1 138 = .ok (.iload 6, 2) := by decide +kernel
theorem dX10_region_140 : decode M_X10_region.2.1 140 = .ok (.aload_n 0, 1) := by decide +kernel
theorem dX10_region_141 : decode M_X10_region.2.1 141 = .ok (.getfield 139, 3) := by decide +kernel
theorem dX10_region_144 : decode M_X10_region.2.1 144 = .ok (.aload_n 0, 1) := by decide +kernel
theorem dX10_region_145 : decode M_X10_region.2.1 145 = .ok (.getfield 139, 3) := by decide +kernel
theorem dX10_region_148 : decode M_X10_region.2.1 148 = .ok (.imul, 1) := by decide +kernel
theorem dX10_region_149 : decode M_X10_region.2.1 149 = .ok (.if_icmp .ge 41, 3) := by decide +kernel
theorem dX10_region_152 : decode M_X10_region.2.1 152 = .ok (.iload 5, 2) := by decide +kernel
theorem dX10_region_154 : decode M_X10_region.2.1 154 = .ok (.aload_n 0, 1) := by decide +kernel
theorem dX10_region_155 : decode M_X10_region.2.1 155 = .ok (.getfield 77, 3) := by decide +kernel
theorem dX10_region_158 : decode M_X10_region.2.1 158 = .ok (.iload 6, 2) := by decide +kernel
theorem dX10_region_160 : decode M_X10_region.2.1 160 = .ok (.iaload, 1) := by decide +kernel
theorem dX10_region_161 : decode M_X10_region.2.1 161 = .ok (.iload 4, 2) := by decide +kernel
theorem dX10_region_163 : decode M_X10_region.2.1 163 = .ok (.if_icmp .ne 17, 3) := by decide +kernel
theorem dX10_region_166 : decode M_X10_region.2.1 166 = .ok (.aload_n 0, 1) := by decide +kernel
theorem dX10_region_167 : decode M_X10_region.2.1 167 = .ok (.getfield 46, 3) := by decide +kernel
theorem dX10_region_170 : decode M_X10_region.2.1 170 = .ok (.iload 6, 2) := by decide +kernel
theorem dX10_region_172 : decode M_X10_region.2.1 172 = .ok (.baload, 1) := by decide +kernel
theorem dX10_region_173 : decode M_X10_region.2.1 173 = .ok (.ifCond .ne 7, 3) := by decide +kernel
theorem dX10_region_176 : decode M_X10_region.2.1 176 = .ok (.iconst 1, 1) := by decide +kernel
theorem dX10_region_177 : decode M_X10_region.2.1 177 = .ok (.goto 4, 3) := by decide +kernel
theorem dX10_region_180 : decode M_X10_region.2.1 180 = .ok (.iconst 0, 1) := by decide +kernel
theorem dX10_region_181 : decode M_X10_region.2.1 181 = .ok (.iadd, 1) := by decide +kernel
theorem dX10_region_182 : decode M_X10_region.2.1 182 = .ok (.istore 5, 2) := by decide +kernel
theorem dX10_region_184 : decode M_X10_region.2.1 184 = .ok (.iinc 6 1, 3) := by decide +kernel
theorem dX10_region_187 : decode M_X10_region.2.1 187 = .ok (.goto (-49), 3) := by decide +kernel
theorem dX10_region_190 : decode M_X10_region.2.1 190 = .ok (.iload 5, 2) := by decide +kernel
theorem dX10_region_192 : decode M_X10_region.2.1 192 = .ok (.ireturn, 1) := by decide +kernel
theorem dX10_region_193 : decode M_X10_region.2.1 193 = .ok (.iconst 0, 1) := by decide +kernel
theorem dX10_region_194 : decode M_X10_region.2.1 194 = .ok (.istore 6, 2) := by decide +kernel
theorem dX10_region_196 : decode M_X10_region.2.1 196 = .ok (.iload 6, 2) := by decide +kernel
theorem dX10_region_198 : decode M_X10_region.2.1 198 = .ok (.aload_n 0, 1) := by decide +kernel
theorem dX10_region_199 : decode M_X10_region.2.1 199 = .ok (.getfield 139, 3) := by decide +kernel
theorem dX10_region_202 : decode M_X10_region.2.1 202 = .ok (.aload_n 0, 1) := by decide +kernel
theorem dX10_region_203 : decode M_X10_region.2.1 203 = .ok (.getfield 139, 3) := by decide +kernel
theorem dX10_region_206 : decode M_X10_region.2.1 206 = .ok (.imul, 1) := by decide +kernel
theorem dX10_region_207 : decode M_X10_region.2.1 207 = .ok (.if_icmp .ge 42, 3) := by decide +kernel
theorem dX10_region_210 : decode M_X10_region.2.1 210 = .ok (.iload 5, 2) := by decide +kernel
theorem dX10_region_212 : decode M_X10_region.2.1 212 = .ok (.aload_n 0, 1) := by decide +kernel
theorem dX10_region_213 : decode M_X10_region.2.1 213 = .ok (.getfield 80, 3) := by decide +kernel
theorem dX10_region_216 : decode M_X10_region.2.1 216 = .ok (.iload 6, 2) := by decide +kernel
theorem dX10_region_218 : decode M_X10_region.2.1 218 = .ok (.iaload, 1) := by decide +kernel
theorem dX10_region_219 : decode M_X10_region.2.1 219 = .ok (.iload 6, 2) := by decide +kernel
theorem dX10_region_221 : decode M_X10_region.2.1 221 = .ok (.if_icmp .ne 18, 3) := by decide +kernel
theorem dX10_region_224 : decode M_X10_region.2.1 224 = .ok (.aload_n 0, 1) := by decide +kernel
theorem dX10_region_225 : decode M_X10_region.2.1 225 = .ok (.iload 4, 2) := by decide +kernel
theorem dX10_region_227 : decode M_X10_region.2.1 227 = .ok (.iload 6, 2) := by decide +kernel
theorem dX10_region_229 : decode M_X10_region.2.1 229 = .ok (.invokevirtual 296, 3) := by decide +kernel
theorem dX10_region_232 : decode M_X10_region.2.1 232 = .ok (.ifCond .eq 7, 3) := by decide +kernel
theorem dX10_region_235 : decode M_X10_region.2.1 235 = .ok (.iconst 1, 1) := by decide +kernel
theorem dX10_region_236 : decode M_X10_region.2.1 236 = .ok (.goto 4, 3) := by decide +kernel
theorem dX10_region_239 : decode M_X10_region.2.1 239 = .ok (.iconst 0, 1) := by decide +kernel
theorem dX10_region_240 : decode M_X10_region.2.1 240 = .ok (.iadd, 1) := by decide +kernel
theorem dX10_region_241 : decode M_X10_region.2.1 241 = .ok (.istore 5, 2) := by decide +kernel
theorem dX10_region_243 : decode M_X10_region.2.1 243 = .ok (.iinc 6 1, 3) := by decide +kernel
theorem dX10_region_246 : decode M_X10_region.2.1 246 = .ok (.goto (-50), 3) := by decide +kernel
theorem dX10_region_249 : decode M_X10_region.2.1 249 = .ok (.iload 5, 2) := by decide +kernel
theorem dX10_region_251 : decode M_X10_region.2.1 251 = .ok (.ireturn, 1) := by decide +kernel
theorem dX10_region_252 : decode M_X10_region.2.1 252 = .ok (.iconst (-1), 1) := by decide +kernel
theorem dX10_region_253 : decode M_X10_region.2.1 253 = .ok (.ireturn, 1) := by decide +kernel
def L_X10_region_90 (X : ZX) (d n : Nat) (P : Option Value → ZSto → Prop) (x4 : Int) (x5 : Int) (x6 : Int) (σ : ZSto) : Prop := R32 x4 → R32 x5 → R32 x6 → ZOk n σ → Zn X M_X10_region d n P 90 [some (.ref (zB X + 73)), none, none, none, some (iV x4), some (iV x5), some (iV x6)] [] σ
def L_X10_region_138 (X : ZX) (d n : Nat) (P : Option Value → ZSto → Prop) (x4 : Int) (x5 : Int) (x6 : Int) (σ : ZSto) : Prop := R32 x4 → R32 x5 → R32 x6 → ZOk n σ → Zn X M_X10_region d n P 138 [some (.ref (zB X + 73)), none, none, none, some (iV x4), some (iV x5), some (iV x6)] [] σ
def L_X10_region_196 (X : ZX) (d n : Nat) (P : Option Value → ZSto → Prop) (x4 : Int) (x5 : Int) (x6 : Int) (σ : ZSto) : Prop := R32 x4 → R32 x5 → R32 x6 → ZOk n σ → Zn X M_X10_region d n P 196 [some (.ref (zB X + 73)), none, none, none, some (iV x4), some (iV x5), some (iV x6)] [] σ
theorem w_X10_region {X : ZX} {d n : Nat} {P : Int → ZSto → Prop} {x1 : Int} {x2 : Int} {x3 : Int} {σ : ZSto} (hn : 104 ≤ n)  (hx1 : R32 x1) (hx2 : R32 x2) (hx3 : R32 x3)
    (h : ZkZ X M_X10_shows d n [.ref (zB X + 73)] σ (fun v1 σ2 => (v1 = 0 → P ((-1)) σ2) ∧ (¬ (v1 = 0) → (x1 < 1 → P ((-1)) σ2) ∧ (¬ (x1 < 1) → (2 < x1 → P ((-1)) σ2) ∧ (¬ (2 < x1) → ZkZ X M_X10_isPoint d n [.ref (zB X + 73), iV x2] σ2 (fun v18 σ19 => (v18 = 0 → P ((-1)) σ19) ∧ (¬ (v18 = 0) → (0 ≤ x2 ∧ x2 < 81) ∧ (¬ gI σ19 84 x2.toNat = x1 → ZkV X M_X10_regions d n [.ref (zB X + 73), iV x1] σ19 (fun σ33 => (∀ y37 : Int, y37 = gI σ33 93 x2.toNat → (x3 = 0 → P y37 σ33) ∧ (x3 = 1 → L_X10_region_90 X d n (zpI P) y37 0 0 σ33) ∧ (x3 = 2 → L_X10_region_138 X d n (zpI P) y37 0 0 σ33) ∧ (x3 = 3 → L_X10_region_196 X d n (zpI P) y37 0 0 σ33) ∧ ((x3 < 0 ∨ 3 < x3) → P ((-1)) σ33)))) ∧ (gI σ19 84 x2.toNat = x1 → P ((-1)) σ19)))))))) :
    ZkI X M_X10_region (d + 1) n [.ref (zB X + 73), iV x1, iV x2, iV x3] σ P := by
  refine zk_of (ls := [some (.ref (zB X + 73)), some (iV x1), some (iV x2), some (iV x3), none, none, none]) pl_RX10 (Nat.le_of_ble_eq_true rfl) rfl (fun k0 => ?_)
  unfold Zn
  refine r_aload_n dX10_region_0 rfl ?_
  refine n_callV (N := M_X10_shows) (As := []) (st := []) dX10_region_1 mk_X10_shows km_RX10_275 kd_X10_shows rfl (zlt hn rfl) sh_73 (q := (RX10, TX10, 52)) rfl rfl (zFits_rm d n n n (Nat.le_refl n)) (Nat.le_of_ble_eq_true rfl) rfl k0 h ?_
  rintro _ σ2 k3 ⟨v1, rfl, h4, h5⟩
  change Zm _ _ _ _ _ _ 4 _ [iV v1] _
  refine r_if_eq (t := 35) dX10_region_4 rfl (r32_z h4)  (fun c6 => ?_) (fun c7 => ?_)
  · have h8 := h5.1 c6
    refine r_iconst dX10_region_35 ?_
    exact r_ireturn dX10_region_36 rfl ⟨k3, _, rfl, (r32c rfl), h8⟩
  · have h9 := h5.2 c7
    refine r_iload_n dX10_region_7 rfl ?_
    refine r_iconst dX10_region_8 ?_
    refine r_icmp_lt (t := 35) dX10_region_9 rfl hx1 (r32c rfl) (fun c10 => ?_) (fun c11 => ?_)
    · have h12 := h9.1 c10
      refine r_iconst dX10_region_35 ?_
      exact r_ireturn dX10_region_36 rfl ⟨k3, _, rfl, (r32c rfl), h12⟩
    · have h13 := h9.2 c11
      refine r_iload_n dX10_region_12 rfl ?_
      refine r_iconst dX10_region_13 ?_
      refine r_icmp_gt (t := 35) dX10_region_14 rfl hx1 (r32c rfl) (fun c14 => ?_) (fun c15 => ?_)
      · have h16 := h13.1 c14
        refine r_iconst dX10_region_35 ?_
        exact r_ireturn dX10_region_36 rfl ⟨k3, _, rfl, (r32c rfl), h16⟩
      · have h17 := h13.2 c15
        refine r_aload_n dX10_region_17 rfl ?_
        refine r_iload_n dX10_region_18 rfl ?_
        refine n_callV (N := M_X10_isPoint) (As := [iV x2]) (st := []) dX10_region_19 mk_X10_isPoint km_RX10_278 kd_X10_isPoint rfl (zlt hn rfl) sh_73 (q := (RX10, TX10, 52)) rfl rfl (zFits_rm d n n n (Nat.le_refl n)) (Nat.le_of_ble_eq_true rfl) rfl k3 h17 ?_
        rintro _ σ19 k20 ⟨v18, rfl, h21, h22⟩
        change Zm _ _ _ _ _ _ 22 _ [iV v18] _
        refine r_if_eq (t := 35) dX10_region_22 rfl (r32_z h21)  (fun c23 => ?_) (fun c24 => ?_)
        · have h25 := h22.1 c23
          refine r_iconst dX10_region_35 ?_
          exact r_ireturn dX10_region_36 rfl ⟨k20, _, rfl, (r32c rfl), h25⟩
        · have h26 := h22.2 c24
          refine r_aload_n dX10_region_25 rfl ?_
          refine r_getP (a := 84) dX10_region_26 kf_RX10_46 (zlt hn rfl) sh_73 rfl (k20.1 _ _ _ (zlt hn rfl) p_73_14) ?_
          refine r_iload_n dX10_region_29 rfl ?_
          obtain ⟨h27, h28⟩ := h26
          refine r_baloadE dX10_region_30 (zlt hn rfl) sh_84 h27.1 h27.2 rfl ?_
          refine r_iload_n dX10_region_31 rfl ?_
          refine r_icmp_ne (t := 37) dX10_region_32 rfl (k20.2.1 _ _) hx1 (fun c29 => ?_) (fun c30 => ?_)
          · have h31 := h28.1 c29
            refine r_aload_n dX10_region_37 rfl ?_
            refine r_iload_n dX10_region_38 rfl ?_
            refine n_callV (N := M_X10_regions) (As := [iV x1]) (st := []) dX10_region_39 mk_X10_regions km_RX10_293 kd_X10_regions rfl (zlt hn rfl) sh_73 (q := (RX10, TX10, 52)) rfl rfl (zFits_rm d n n n (Nat.le_refl n)) (Nat.le_of_ble_eq_true rfl) rfl k20 h31 ?_
            rintro _ σ33 k34 ⟨rfl, h36⟩
            change Zm _ _ _ _ _ _ 42 _ [] _
            refine r_aload_n dX10_region_42 rfl ?_
            refine r_getP (a := 93) dX10_region_43 kf_RX10_77 (zlt hn rfl) sh_73 rfl (k34.1 _ _ _ (zlt hn rfl) p_73_34) ?_
            refine r_iload_n dX10_region_46 rfl ?_
            refine r_ialoadE dX10_region_47 (zlt hn rfl) sh_93 h27.1 h27.2 rfl ?_
            refine r_name (fun y37 e38 => ?_)
            have h39 := h36 y37 e38
            refine r_istore dX10_region_48 rfl rfl ?_
            refine r_iconst dX10_region_50 ?_
            refine r_istore dX10_region_51 rfl rfl ?_
            refine r_iload_n dX10_region_53 rfl ?_
            by_cases c40 : x3 = 0
            · have h41 := h39.1 c40
              refine r_tabIn (t := 84) dX10_region_54 hx3 (by rw [c40]; decide) (by rw [c40]; decide) (by rw [c40]; rfl) rfl ?_
              refine r_iload dX10_region_84 rfl ?_
              exact r_ireturn dX10_region_86 rfl ⟨k34, _, rfl, (by rw [e38]; exact (k34.2.1 _ _)), h41⟩
            by_cases c42 : x3 = 1
            · have h43 := h39.2.1 c42
              refine r_tabIn (t := 87) dX10_region_54 hx3 (by rw [c42]; decide) (by rw [c42]; decide) (by rw [c42]; rfl) rfl ?_
              refine r_iconst dX10_region_87 ?_
              refine r_istore dX10_region_88 rfl rfl ?_
              exact r_mask [true, false, false, false, true, true, true] rfl (h43 (by rw [e38]; exact (k34.2.1 _ _)) (r32c rfl) (r32c rfl) k34)
            by_cases c44 : x3 = 2
            · have h45 := h39.2.2.1 c44
              refine r_tabIn (t := 135) dX10_region_54 hx3 (by rw [c44]; decide) (by rw [c44]; decide) (by rw [c44]; rfl) rfl ?_
              refine r_iconst dX10_region_135 ?_
              refine r_istore dX10_region_136 rfl rfl ?_
              exact r_mask [true, false, false, false, true, true, true] rfl (h45 (by rw [e38]; exact (k34.2.1 _ _)) (r32c rfl) (r32c rfl) k34)
            by_cases c46 : x3 = 3
            · have h47 := h39.2.2.2.1 c46
              refine r_tabIn (t := 193) dX10_region_54 hx3 (by rw [c46]; decide) (by rw [c46]; decide) (by rw [c46]; rfl) rfl ?_
              refine r_iconst dX10_region_193 ?_
              refine r_istore dX10_region_194 rfl rfl ?_
              exact r_mask [true, false, false, false, true, true, true] rfl (h47 (by rw [e38]; exact (k34.2.1 _ _)) (r32c rfl) (r32c rfl) k34)
            · have c49 : (x3 < 0 ∨ 3 < x3) := by omega
              have h48 := h39.2.2.2.2 c49
              refine r_tabOut (t := 252) dX10_region_54 hx3 c49 rfl ?_
              refine r_iconst dX10_region_252 ?_
              exact r_ireturn dX10_region_253 rfl ⟨k34, _, rfl, (r32c rfl), h48⟩
          · have h50 := h28.2 c30
            refine r_iconst dX10_region_35 ?_
            exact r_ireturn dX10_region_36 rfl ⟨k20, _, rfl, (r32c rfl), h50⟩
theorem b_X10_region_90 {X : ZX} {d n : Nat} {P : Int → ZSto → Prop} {x4 : Int} {x5 : Int} {x6 : Int} {σ : ZSto} (hn : 104 ≤ n) 
    (h : R32 ((gI σ 73 13) * (gI σ 73 13)) ∧ ((gI σ 73 13) * (gI σ 73 13) ≤ x6 → P x5 σ) ∧ (¬ ((gI σ 73 13) * (gI σ 73 13) ≤ x6) → (0 ≤ x6 ∧ x6 < 81) ∧ (¬ gI σ 93 x6.toNat = x4 → R32 (x5 + 0) ∧ R32 (x6 + 1) ∧ L_X10_region_90 X d n (zpI P) x4 (x5 + 0) (x6 + 1) σ) ∧ (gI σ 93 x6.toNat = x4 → R32 (x5 + 1) ∧ R32 (x6 + 1) ∧ L_X10_region_90 X d n (zpI P) x4 (x5 + 1) (x6 + 1) σ))) :
    L_X10_region_90 X d n (zpI P) x4 x5 x6 σ := by
  intro hx4 hx5 hx6 k0
  unfold Zn
  refine r_iload dX10_region_90 rfl ?_
  refine r_aload_n dX10_region_92 rfl ?_
  refine r_getI dX10_region_93 kf_RX10_139 (zlt hn rfl) sh_73 (Or.inl rfl) rfl ?_
  refine r_aload_n dX10_region_96 rfl ?_
  refine r_getI dX10_region_97 kf_RX10_139 (zlt hn rfl) sh_73 (Or.inl rfl) rfl ?_
  refine r_imul dX10_region_100 ?_
  obtain ⟨h1, h2⟩ := h
  refine r_icmp_ge (t := 132) dX10_region_101 rfl hx6 h1 (fun c3 => ?_) (fun c4 => ?_)
  · have h5 := h2.1 c3
    refine r_iload dX10_region_132 rfl ?_
    exact r_ireturn dX10_region_134 rfl ⟨k0, _, rfl, hx5, h5⟩
  · have h6 := h2.2 c4
    refine r_iload dX10_region_104 rfl ?_
    refine r_aload_n dX10_region_106 rfl ?_
    refine r_getP (a := 93) dX10_region_107 kf_RX10_77 (zlt hn rfl) sh_73 rfl (k0.1 _ _ _ (zlt hn rfl) p_73_34) ?_
    refine r_iload dX10_region_110 rfl ?_
    obtain ⟨h7, h8⟩ := h6
    refine r_ialoadE dX10_region_112 (zlt hn rfl) sh_93 h7.1 h7.2 rfl ?_
    refine r_iload dX10_region_113 rfl ?_
    refine r_icmp_ne (t := 122) dX10_region_115 rfl (k0.2.1 _ _) hx4 (fun c9 => ?_) (fun c10 => ?_)
    · have h11 := h8.1 c9
      refine r_iconst dX10_region_122 ?_
      refine r_iadd dX10_region_123 ?_
      refine r_istore dX10_region_124 rfl rfl ?_
      refine r_iinc dX10_region_126 rfl rfl rfl ?_
      refine r_goto (t := 90) dX10_region_129 rfl ?_
      obtain ⟨h12, h13⟩ := h11
      obtain ⟨h14, h15⟩ := h13
      exact r_mask [true, false, false, false, true, true, true] rfl (h15 hx4 h12 h14 k0)
    · have h16 := h8.2 c10
      refine r_iconst dX10_region_118 ?_
      refine r_goto (t := 123) dX10_region_119 rfl ?_
      refine r_iadd dX10_region_123 ?_
      refine r_istore dX10_region_124 rfl rfl ?_
      refine r_iinc dX10_region_126 rfl rfl rfl ?_
      refine r_goto (t := 90) dX10_region_129 rfl ?_
      obtain ⟨h17, h18⟩ := h16
      obtain ⟨h19, h20⟩ := h18
      exact r_mask [true, false, false, false, true, true, true] rfl (h20 hx4 h17 h19 k0)
theorem b_X10_region_138 {X : ZX} {d n : Nat} {P : Int → ZSto → Prop} {x4 : Int} {x5 : Int} {x6 : Int} {σ : ZSto} (hn : 104 ≤ n) 
    (h : R32 ((gI σ 73 13) * (gI σ 73 13)) ∧ ((gI σ 73 13) * (gI σ 73 13) ≤ x6 → P x5 σ) ∧ (¬ ((gI σ 73 13) * (gI σ 73 13) ≤ x6) → (0 ≤ x6 ∧ x6 < 81) ∧ (¬ gI σ 93 x6.toNat = x4 → R32 (x5 + 0) ∧ R32 (x6 + 1) ∧ L_X10_region_138 X d n (zpI P) x4 (x5 + 0) (x6 + 1) σ) ∧ (gI σ 93 x6.toNat = x4 → (¬ gI σ 84 x6.toNat = 0 → R32 (x5 + 0) ∧ R32 (x6 + 1) ∧ L_X10_region_138 X d n (zpI P) x4 (x5 + 0) (x6 + 1) σ) ∧ (gI σ 84 x6.toNat = 0 → R32 (x5 + 1) ∧ R32 (x6 + 1) ∧ L_X10_region_138 X d n (zpI P) x4 (x5 + 1) (x6 + 1) σ)))) :
    L_X10_region_138 X d n (zpI P) x4 x5 x6 σ := by
  intro hx4 hx5 hx6 k0
  unfold Zn
  refine r_iload dX10_region_138 rfl ?_
  refine r_aload_n dX10_region_140 rfl ?_
  refine r_getI dX10_region_141 kf_RX10_139 (zlt hn rfl) sh_73 (Or.inl rfl) rfl ?_
  refine r_aload_n dX10_region_144 rfl ?_
  refine r_getI dX10_region_145 kf_RX10_139 (zlt hn rfl) sh_73 (Or.inl rfl) rfl ?_
  refine r_imul dX10_region_148 ?_
  obtain ⟨h1, h2⟩ := h
  refine r_icmp_ge (t := 190) dX10_region_149 rfl hx6 h1 (fun c3 => ?_) (fun c4 => ?_)
  · have h5 := h2.1 c3
    refine r_iload dX10_region_190 rfl ?_
    exact r_ireturn dX10_region_192 rfl ⟨k0, _, rfl, hx5, h5⟩
  · have h6 := h2.2 c4
    refine r_iload dX10_region_152 rfl ?_
    refine r_aload_n dX10_region_154 rfl ?_
    refine r_getP (a := 93) dX10_region_155 kf_RX10_77 (zlt hn rfl) sh_73 rfl (k0.1 _ _ _ (zlt hn rfl) p_73_34) ?_
    refine r_iload dX10_region_158 rfl ?_
    obtain ⟨h7, h8⟩ := h6
    refine r_ialoadE dX10_region_160 (zlt hn rfl) sh_93 h7.1 h7.2 rfl ?_
    refine r_iload dX10_region_161 rfl ?_
    refine r_icmp_ne (t := 180) dX10_region_163 rfl (k0.2.1 _ _) hx4 (fun c9 => ?_) (fun c10 => ?_)
    · have h11 := h8.1 c9
      refine r_iconst dX10_region_180 ?_
      refine r_iadd dX10_region_181 ?_
      refine r_istore dX10_region_182 rfl rfl ?_
      refine r_iinc dX10_region_184 rfl rfl rfl ?_
      refine r_goto (t := 138) dX10_region_187 rfl ?_
      obtain ⟨h12, h13⟩ := h11
      obtain ⟨h14, h15⟩ := h13
      exact r_mask [true, false, false, false, true, true, true] rfl (h15 hx4 h12 h14 k0)
    · have h16 := h8.2 c10
      refine r_aload_n dX10_region_166 rfl ?_
      refine r_getP (a := 84) dX10_region_167 kf_RX10_46 (zlt hn rfl) sh_73 rfl (k0.1 _ _ _ (zlt hn rfl) p_73_14) ?_
      refine r_iload dX10_region_170 rfl ?_
      refine r_baloadE dX10_region_172 (zlt hn rfl) sh_84 h7.1 h7.2 rfl ?_
      refine r_if_ne (t := 180) dX10_region_173 rfl (k0.2.1 _ _)  (fun c17 => ?_) (fun c18 => ?_)
      · have h19 := h16.1 c17
        refine r_iconst dX10_region_180 ?_
        refine r_iadd dX10_region_181 ?_
        refine r_istore dX10_region_182 rfl rfl ?_
        refine r_iinc dX10_region_184 rfl rfl rfl ?_
        refine r_goto (t := 138) dX10_region_187 rfl ?_
        obtain ⟨h20, h21⟩ := h19
        obtain ⟨h22, h23⟩ := h21
        exact r_mask [true, false, false, false, true, true, true] rfl (h23 hx4 h20 h22 k0)
      · have h24 := h16.2 c18
        refine r_iconst dX10_region_176 ?_
        refine r_goto (t := 181) dX10_region_177 rfl ?_
        refine r_iadd dX10_region_181 ?_
        refine r_istore dX10_region_182 rfl rfl ?_
        refine r_iinc dX10_region_184 rfl rfl rfl ?_
        refine r_goto (t := 138) dX10_region_187 rfl ?_
        obtain ⟨h25, h26⟩ := h24
        obtain ⟨h27, h28⟩ := h26
        exact r_mask [true, false, false, false, true, true, true] rfl (h28 hx4 h25 h27 k0)
theorem b_X10_region_196 {X : ZX} {d n : Nat} {P : Int → ZSto → Prop} {x4 : Int} {x5 : Int} {x6 : Int} {σ : ZSto} (hn : 104 ≤ n) 
    (h : R32 ((gI σ 73 13) * (gI σ 73 13)) ∧ ((gI σ 73 13) * (gI σ 73 13) ≤ x6 → P x5 σ) ∧ (¬ ((gI σ 73 13) * (gI σ 73 13) ≤ x6) → (0 ≤ x6 ∧ x6 < 81) ∧ (¬ gI σ 94 x6.toNat = x6 → R32 (x5 + 0) ∧ R32 (x6 + 1) ∧ L_X10_region_196 X d n (zpI P) x4 (x5 + 0) (x6 + 1) σ) ∧ (gI σ 94 x6.toNat = x6 → ZkZ X M_X10_isVital d n [.ref (zB X + 73), iV x4, iV x6] σ (fun v17 σ18 => (v17 = 0 → R32 (x5 + 0) ∧ R32 (x6 + 1) ∧ L_X10_region_196 X d n (zpI P) x4 (x5 + 0) (x6 + 1) σ18) ∧ (¬ (v17 = 0) → R32 (x5 + 1) ∧ R32 (x6 + 1) ∧ L_X10_region_196 X d n (zpI P) x4 (x5 + 1) (x6 + 1) σ18))))) :
    L_X10_region_196 X d n (zpI P) x4 x5 x6 σ := by
  intro hx4 hx5 hx6 k0
  unfold Zn
  refine r_iload dX10_region_196 rfl ?_
  refine r_aload_n dX10_region_198 rfl ?_
  refine r_getI dX10_region_199 kf_RX10_139 (zlt hn rfl) sh_73 (Or.inl rfl) rfl ?_
  refine r_aload_n dX10_region_202 rfl ?_
  refine r_getI dX10_region_203 kf_RX10_139 (zlt hn rfl) sh_73 (Or.inl rfl) rfl ?_
  refine r_imul dX10_region_206 ?_
  obtain ⟨h1, h2⟩ := h
  refine r_icmp_ge (t := 249) dX10_region_207 rfl hx6 h1 (fun c3 => ?_) (fun c4 => ?_)
  · have h5 := h2.1 c3
    refine r_iload dX10_region_249 rfl ?_
    exact r_ireturn dX10_region_251 rfl ⟨k0, _, rfl, hx5, h5⟩
  · have h6 := h2.2 c4
    refine r_iload dX10_region_210 rfl ?_
    refine r_aload_n dX10_region_212 rfl ?_
    refine r_getP (a := 94) dX10_region_213 kf_RX10_80 (zlt hn rfl) sh_73 rfl (k0.1 _ _ _ (zlt hn rfl) p_73_35) ?_
    refine r_iload dX10_region_216 rfl ?_
    obtain ⟨h7, h8⟩ := h6
    refine r_ialoadE dX10_region_218 (zlt hn rfl) sh_94 h7.1 h7.2 rfl ?_
    refine r_iload dX10_region_219 rfl ?_
    refine r_icmp_ne (t := 239) dX10_region_221 rfl (k0.2.1 _ _) hx6 (fun c9 => ?_) (fun c10 => ?_)
    · have h11 := h8.1 c9
      refine r_iconst dX10_region_239 ?_
      refine r_iadd dX10_region_240 ?_
      refine r_istore dX10_region_241 rfl rfl ?_
      refine r_iinc dX10_region_243 rfl rfl rfl ?_
      refine r_goto (t := 196) dX10_region_246 rfl ?_
      obtain ⟨h12, h13⟩ := h11
      obtain ⟨h14, h15⟩ := h13
      exact r_mask [true, false, false, false, true, true, true] rfl (h15 hx4 h12 h14 k0)
    · have h16 := h8.2 c10
      refine r_aload_n dX10_region_224 rfl ?_
      refine r_iload dX10_region_225 rfl ?_
      refine r_iload dX10_region_227 rfl ?_
      refine n_callV (N := M_X10_isVital) (As := [iV x4, iV x6]) (st := [iV x5]) dX10_region_229 mk_X10_isVital km_RX10_296 kd_X10_isVital rfl (zlt hn rfl) sh_73 (q := (RX10, TX10, 52)) rfl rfl (zFits_rm d n n n (Nat.le_refl n)) (Nat.le_of_ble_eq_true rfl) rfl k0 h16 ?_
      rintro _ σ18 k19 ⟨v17, rfl, h20, h21⟩
      change Zm _ _ _ _ _ _ 232 _ [iV v17, iV x5] _
      refine r_if_eq (t := 239) dX10_region_232 rfl (r32_z h20)  (fun c22 => ?_) (fun c23 => ?_)
      · have h24 := h21.1 c22
        refine r_iconst dX10_region_239 ?_
        refine r_iadd dX10_region_240 ?_
        refine r_istore dX10_region_241 rfl rfl ?_
        refine r_iinc dX10_region_243 rfl rfl rfl ?_
        refine r_goto (t := 196) dX10_region_246 rfl ?_
        obtain ⟨h25, h26⟩ := h24
        obtain ⟨h27, h28⟩ := h26
        exact r_mask [true, false, false, false, true, true, true] rfl (h28 hx4 h25 h27 k19)
      · have h29 := h21.2 c23
        refine r_iconst dX10_region_235 ?_
        refine r_goto (t := 240) dX10_region_236 rfl ?_
        refine r_iadd dX10_region_240 ?_
        refine r_istore dX10_region_241 rfl rfl ?_
        refine r_iinc dX10_region_243 rfl rfl rfl ?_
        refine r_goto (t := 196) dX10_region_246 rfl ?_
        obtain ⟨h30, h31⟩ := h29
        obtain ⟨h32, h33⟩ := h31
        exact r_mask [true, false, false, false, true, true, true] rfl (h33 hx4 h30 h32 k19)
/-! StoneRoomModel.pushes -/
theorem dX10_pushes_0 : decode M_X10_pushes.2.1 0 = .ok (.iconst 0, 1) := by decide +kernel
theorem dX10_pushes_1 : decode M_X10_pushes.2.1 1 = .ok (.istore_n 1, 1) := by decide +kernel
theorem dX10_pushes_2 : decode M_X10_pushes.2.1 2 = .ok (.iload_n 1, 1) := by decide +kernel
theorem dX10_pushes_3 : decode M_X10_pushes.2.1 3 = .ok (.bipush 81, 2) := by decide +kernel
theorem dX10_pushes_5 : decode M_X10_pushes.2.1 5 = .ok (.if_icmp .ge 29, 3) := by decide +kernel
theorem dX10_pushes_8 : decode M_X10_pushes.2.1 8 = .ok (.aload_n 0, 1) := by decide +kernel
theorem dX10_pushes_9 : decode M_X10_pushes.2.1 9 = .ok (.getfield 90, 3) := by decide +kernel
theorem dX10_pushes_12 : decode M_X10_pushes.2.1 12 = .ok (.bipush 81, 2) := by decide +kernel
theorem dX10_pushes_14 : decode M_X10_pushes.2.1 14 = .ok (.aload_n 0, 1) := by decide +kernel
theorem dX10_pushes_15 : decode M_X10_pushes.2.1 15 = .ok (.getfield 299, 3) := by decide +kernel
theorem dX10_pushes_18 : decode M_X10_pushes.2.1 18 = .ok (.imul, 1) := by decide +kernel
theorem dX10_pushes_19 : decode M_X10_pushes.2.1 19 = .ok (.iload_n 1, 1) := by decide +kernel
theorem dX10_pushes_20 : decode M_X10_pushes.2.1 20 = .ok (.iadd, 1) := by decide +kernel
theorem dX10_pushes_21 : decode M_X10_pushes.2.1 21 = .ok (.aload_n 0, 1) := by decide +kernel
theorem dX10_pushes_22 : decode M_X10_pushes.2.1 22 = .ok (.getfield 46, 3) := by decide +kernel
theorem dX10_pushes_25 : decode M_X10_pushes.2.1 25 = .ok (.iload_n 1, 1) := by decide +kernel
theorem dX10_pushes_26 : decode M_X10_pushes.2.1 26 = .ok (.baload, 1) := by decide +kernel
theorem dX10_pushes_27 : decode M_X10_pushes.2.1 27 = .ok (.bastore, 1) := by decide +kernel
theorem dX10_pushes_28 : decode M_X10_pushes.2.1 28 = .ok (.iinc 1 1, 3) := by decide +kernel
theorem dX10_pushes_31 : decode M_X10_pushes.2.1 31 = .ok (.goto (-29), 3) := by decide +kernel
theorem dX10_pushes_34 : decode M_X10_pushes.2.1 34 = .ok (.aload_n 0, 1) := by decide +kernel
theorem dX10_pushes_35 : decode M_X10_pushes.2.1 35 = .ok (.dup, 1) := by decide +kernel
theorem dX10_pushes_36 : decode M_X10_pushes.2.1 36 = .ok (.getfield 299, 3) := by decide +kernel
theorem dX10_pushes_39 : decode M_X10_pushes.2.1 39 = .ok (.iconst 1, 1) := by decide +kernel
theorem dX10_pushes_40 : decode M_X10_pushes.2.1 40 = .ok (.iadd, 1) := by decide +kernel
theorem dX10_pushes_41 : decode M_X10_pushes.2.1 41 = .ok (.putfield 299, 3) := by decide +kernel
theorem dX10_pushes_44 : decode M_X10_pushes.2.1 44 = .ok (.return_, 1) := by decide +kernel
def L_X10_pushes_2 (X : ZX) (d n : Nat) (P : Option Value → ZSto → Prop) (x1 : Int) (σ : ZSto) : Prop := R32 x1 → ZOk n σ → Zn X M_X10_pushes d n P 2 [some (.ref (zB X + 73)), some (iV x1)] [] σ
theorem w_X10_pushes {X : ZX} {d n : Nat} {P : ZSto → Prop}  {σ : ZSto} (hn : 104 ≤ n)  
    (h : L_X10_pushes_2 X d n (zpV P) 0 σ) :
    ZkV X M_X10_pushes (d + 1) n [.ref (zB X + 73)] σ P := by
  refine zk_of (ls := [some (.ref (zB X + 73)), none]) pl_RX10 (Nat.le_of_ble_eq_true rfl) rfl (fun k0 => ?_)
  unfold Zn
  refine r_iconst dX10_pushes_0 ?_
  refine r_istore_n dX10_pushes_1 rfl rfl ?_
  exact r_mask [true, true] rfl (h (r32c rfl) k0)
theorem b_X10_pushes_2 {X : ZX} {d n : Nat} {P : ZSto → Prop} {x1 : Int} {σ : ZSto} (hn : 104 ≤ n) 
    (h : (81 ≤ x1 → R32 ((gI σ 73 39) + 1) ∧ P (sI σ 73 39 ((gI σ 73 39) + 1))) ∧ (¬ (81 ≤ x1) → (0 ≤ x1 ∧ x1 < 81) ∧ (0 ≤ (81 * (gI σ 73 39)) + x1 ∧ (81 * (gI σ 73 39)) + x1 < 49000) ∧ R32 (x1 + 1) ∧ L_X10_pushes_2 X d n (zpV P) (x1 + 1) (sI σ 97 (((81 * (gI σ 73 39)) + x1).toNat) (gI σ 84 x1.toNat)))) :
    L_X10_pushes_2 X d n (zpV P) x1 σ := by
  intro hx1 k0
  unfold Zn
  refine r_iload_n dX10_pushes_2 rfl ?_
  refine r_bipush dX10_pushes_3 rfl ?_
  refine r_icmp_ge (t := 34) dX10_pushes_5 rfl hx1 (r32c rfl) (fun c1 => ?_) (fun c2 => ?_)
  · have h3 := h.1 c1
    refine r_aload_n dX10_pushes_34 rfl ?_
    refine r_dup dX10_pushes_35 rfl ?_
    refine r_getI dX10_pushes_36 kf_RX10_299 (zlt hn rfl) sh_73 (Or.inl rfl) rfl ?_
    refine r_iconst dX10_pushes_39 ?_
    refine r_iadd dX10_pushes_40 ?_
    obtain ⟨h4, h5⟩ := h3
    refine r_putI dX10_pushes_41 kf_RX10_299 (zlt hn rfl) sh_73 rfl (Or.inl rfl) ?_
    have k6 := zok_o (i := 39) (x := (gI σ 73 39) + 1) k0 sh_73 h4
    exact r_return dX10_pushes_44 rfl ⟨k6, rfl, h5⟩
  · have h7 := h.2 c2
    refine r_aload_n dX10_pushes_8 rfl ?_
    refine r_getP (a := 97) dX10_pushes_9 kf_RX10_90 (zlt hn rfl) sh_73 rfl (k0.1 _ _ _ (zlt hn rfl) p_73_38) ?_
    refine r_bipush dX10_pushes_12 rfl ?_
    refine r_aload_n dX10_pushes_14 rfl ?_
    refine r_getI dX10_pushes_15 kf_RX10_299 (zlt hn rfl) sh_73 (Or.inl rfl) rfl ?_
    refine r_imul dX10_pushes_18 ?_
    refine r_iload_n dX10_pushes_19 rfl ?_
    refine r_iadd dX10_pushes_20 ?_
    refine r_aload_n dX10_pushes_21 rfl ?_
    refine r_getP (a := 84) dX10_pushes_22 kf_RX10_46 (zlt hn rfl) sh_73 rfl (k0.1 _ _ _ (zlt hn rfl) p_73_14) ?_
    refine r_iload_n dX10_pushes_25 rfl ?_
    obtain ⟨h8, h9⟩ := h7
    refine r_baloadE dX10_pushes_26 (zlt hn rfl) sh_84 h8.1 h8.2 rfl ?_
    obtain ⟨h10, h11⟩ := h9
    refine r_bastore dX10_pushes_27 (zlt hn rfl) sh_97 h10.1 h10.2 (zok_by k0 sh_84).1 (zok_by k0 sh_84).2 ?_
    have k12 := zok_b (i := ((81 * (gI σ 73 39)) + x1).toNat) (x := gI σ 84 x1.toNat) k0 sh_97 (zok_by k0 sh_84).1 (zok_by k0 sh_84).2
    refine r_iinc dX10_pushes_28 rfl rfl rfl ?_
    refine r_goto (t := 2) dX10_pushes_31 rfl ?_
    obtain ⟨h13, h14⟩ := h11
    exact r_mask [true, true] rfl (h14 h13 k12)
/-! StoneRoomModel.pops -/
theorem dX10_pops_0 : decode M_X10_pops.2.1 0 = .ok (.aload_n 0, 1) := by decide +kernel
theorem dX10_pops_1 : decode M_X10_pops.2.1 1 = .ok (.dup, 1) := by decide +kernel
theorem dX10_pops_2 : decode M_X10_pops.2.1 2 = .ok (.getfield 299, 3) := by decide +kernel
theorem dX10_pops_5 : decode M_X10_pops.2.1 5 = .ok (.iconst 1, 1) := by decide +kernel
theorem dX10_pops_6 : decode M_X10_pops.2.1 6 = .ok (.isub, 1) := by decide +kernel
theorem dX10_pops_7 : decode M_X10_pops.2.1 7 = .ok (.putfield 299, 3) := by decide +kernel
theorem dX10_pops_10 : decode M_X10_pops.2.1 10 = .ok (.iconst 0, 1) := by decide +kernel
theorem dX10_pops_11 : decode M_X10_pops.2.1 11 = .ok (.istore_n 1, 1) := by decide +kernel
theorem dX10_pops_12 : decode M_X10_pops.2.1 12 = .ok (.iload_n 1, 1) := by decide +kernel
theorem dX10_pops_13 : decode M_X10_pops.2.1 13 = .ok (.bipush 81, 2) := by decide +kernel
theorem dX10_pops_15 : decode M_X10_pops.2.1 15 = .ok (.if_icmp .ge 29, 3) := by decide +kernel
theorem dX10_pops_18 : decode M_X10_pops.2.1 18 = .ok (.aload_n 0, 1) := by decide +kernel
theorem dX10_pops_19 : decode M_X10_pops.2.1 19 = .ok (.getfield 46, 3) := by decide +kernel
theorem dX10_pops_22 : decode M_X10_pops.2.1 22 = .ok (.iload_n 1, 1) := by decide +kernel
theorem dX10_pops_23 : decode M_X10_pops.2.1 23 = .ok (.aload_n 0, 1) := by decide +kernel
theorem dX10_pops_24 : decode M_X10_pops.2.1 24 = .ok (.getfield 90, 3) := by decide +kernel
theorem dX10_pops_27 : decode M_X10_pops.2.1 27 = .ok (.bipush 81, 2) := by decide +kernel
theorem dX10_pops_29 : decode M_X10_pops.2.1 29 = .ok (.aload_n 0, 1) := by decide +kernel
theorem dX10_pops_30 : decode M_X10_pops.2.1 30 = .ok (.getfield 299, 3) := by decide +kernel
theorem dX10_pops_33 : decode M_X10_pops.2.1 33 = .ok (.imul, 1) := by decide +kernel
theorem dX10_pops_34 : decode M_X10_pops.2.1 34 = .ok (.iload_n 1, 1) := by decide +kernel
theorem dX10_pops_35 : decode M_X10_pops.2.1 35 = .ok (.iadd, 1) := by decide +kernel
theorem dX10_pops_36 : decode M_X10_pops.2.1 36 = .ok (.baload, 1) := by decide +kernel
theorem dX10_pops_37 : decode M_X10_pops.2.1 37 = .ok (.bastore, 1) := by decide +kernel
theorem dX10_pops_38 : decode M_X10_pops.2.1 38 = .ok (.iinc 1 1, 3) := by decide +kernel
theorem dX10_pops_41 : decode M_X10_pops.2.1 41 = .ok (.goto (-29), 3) := by decide +kernel
theorem dX10_pops_44 : decode M_X10_pops.2.1 44 = .ok (.return_, 1) := by decide +kernel
def L_X10_pops_12 (X : ZX) (d n : Nat) (P : Option Value → ZSto → Prop) (x1 : Int) (σ : ZSto) : Prop := R32 x1 → ZOk n σ → Zn X M_X10_pops d n P 12 [some (.ref (zB X + 73)), some (iV x1)] [] σ
theorem w_X10_pops {X : ZX} {d n : Nat} {P : ZSto → Prop}  {σ : ZSto} (hn : 104 ≤ n)  
    (h : R32 ((gI σ 73 39) - 1) ∧ L_X10_pops_12 X d n (zpV P) 0 (sI σ 73 39 ((gI σ 73 39) - 1))) :
    ZkV X M_X10_pops (d + 1) n [.ref (zB X + 73)] σ P := by
  refine zk_of (ls := [some (.ref (zB X + 73)), none]) pl_RX10 (Nat.le_of_ble_eq_true rfl) rfl (fun k0 => ?_)
  unfold Zn
  refine r_aload_n dX10_pops_0 rfl ?_
  refine r_dup dX10_pops_1 rfl ?_
  refine r_getI dX10_pops_2 kf_RX10_299 (zlt hn rfl) sh_73 (Or.inl rfl) rfl ?_
  refine r_iconst dX10_pops_5 ?_
  refine r_isub dX10_pops_6 ?_
  obtain ⟨h1, h2⟩ := h
  refine r_putI dX10_pops_7 kf_RX10_299 (zlt hn rfl) sh_73 rfl (Or.inl rfl) ?_
  have k3 := zok_o (i := 39) (x := (gI σ 73 39) - 1) k0 sh_73 h1
  refine r_iconst dX10_pops_10 ?_
  refine r_istore_n dX10_pops_11 rfl rfl ?_
  exact r_mask [true, true] rfl (h2 (r32c rfl) k3)
theorem b_X10_pops_12 {X : ZX} {d n : Nat} {P : ZSto → Prop} {x1 : Int} {σ : ZSto} (hn : 104 ≤ n) 
    (h : (81 ≤ x1 → P σ) ∧ (¬ (81 ≤ x1) → (0 ≤ (81 * (gI σ 73 39)) + x1 ∧ (81 * (gI σ 73 39)) + x1 < 49000) ∧ (0 ≤ x1 ∧ x1 < 81) ∧ R32 (x1 + 1) ∧ L_X10_pops_12 X d n (zpV P) (x1 + 1) (sI σ 84 x1.toNat (gI σ 97 (((81 * (gI σ 73 39)) + x1).toNat))))) :
    L_X10_pops_12 X d n (zpV P) x1 σ := by
  intro hx1 k0
  unfold Zn
  refine r_iload_n dX10_pops_12 rfl ?_
  refine r_bipush dX10_pops_13 rfl ?_
  refine r_icmp_ge (t := 44) dX10_pops_15 rfl hx1 (r32c rfl) (fun c1 => ?_) (fun c2 => ?_)
  · have h3 := h.1 c1
    exact r_return dX10_pops_44 rfl ⟨k0, rfl, h3⟩
  · have h4 := h.2 c2
    refine r_aload_n dX10_pops_18 rfl ?_
    refine r_getP (a := 84) dX10_pops_19 kf_RX10_46 (zlt hn rfl) sh_73 rfl (k0.1 _ _ _ (zlt hn rfl) p_73_14) ?_
    refine r_iload_n dX10_pops_22 rfl ?_
    refine r_aload_n dX10_pops_23 rfl ?_
    refine r_getP (a := 97) dX10_pops_24 kf_RX10_90 (zlt hn rfl) sh_73 rfl (k0.1 _ _ _ (zlt hn rfl) p_73_38) ?_
    refine r_bipush dX10_pops_27 rfl ?_
    refine r_aload_n dX10_pops_29 rfl ?_
    refine r_getI dX10_pops_30 kf_RX10_299 (zlt hn rfl) sh_73 (Or.inl rfl) rfl ?_
    refine r_imul dX10_pops_33 ?_
    refine r_iload_n dX10_pops_34 rfl ?_
    refine r_iadd dX10_pops_35 ?_
    obtain ⟨h5, h6⟩ := h4
    refine r_baloadE dX10_pops_36 (zlt hn rfl) sh_97 h5.1 h5.2 rfl ?_
    obtain ⟨h7, h8⟩ := h6
    refine r_bastore dX10_pops_37 (zlt hn rfl) sh_84 h7.1 h7.2 (zok_by k0 sh_97).1 (zok_by k0 sh_97).2 ?_
    have k9 := zok_b (i := x1.toNat) (x := gI σ 97 (((81 * (gI σ 73 39)) + x1).toNat)) k0 sh_84 (zok_by k0 sh_97).1 (zok_by k0 sh_97).2
    refine r_iinc dX10_pops_38 rfl rfl rfl ?_
    refine r_goto (t := 12) dX10_pops_41 rfl ?_
    obtain ⟨h10, h11⟩ := h8
    exact r_mask [true, true] rfl (h11 h10 k9)
/-! StoneRoomModel.tries -/
theorem dX10_tries_0 : decode M_X10_tries.2.1 0 = .ok (.aload_n 0, 1) := by decide +kernel
theorem dX10_tries_1 : decode M_X10_tries.2.1 1 = .ok (.getfield 302, 3) := by decide +kernel
theorem dX10_tries_4 : decode M_X10_tries.2.1 4 = .ok (.sipush 600, 3) := by decide +kernel
theorem dX10_tries_7 : decode M_X10_tries.2.1 7 = .ok (.if_icmp .ne 10, 3) := by decide +kernel
theorem dX10_tries_10 : decode M_X10_tries.2.1 10 = .ok (.aload_n 0, 1) := by decide +kernel
theorem dX10_tries_11 : decode M_X10_tries.2.1 11 = .ok (.iconst 1, 1) := by decide +kernel
theorem dX10_tries_12 : decode M_X10_tries.2.1 12 = .ok (.putfield 305, 3) := by decide +kernel
theorem dX10_tries_15 : decode M_X10_tries.2.1 15 = .ok (.iconst 0, 1) := by decide +kernel
theorem dX10_tries_16 : decode M_X10_tries.2.1 16 = .ok (.ireturn, 1) := by decide +kernel
theorem dX10_tries_17 : decode M_X10_tries.2.1 17 = .ok (.aload_n 0, 1) := by decide +kernel
theorem dX10_tries_18 : decode M_X10_tries.2.1 18 = .ok (.dup, 1) := by decide +kernel
theorem dX10_tries_19 : decode M_X10_tries.2.1 19 = .ok (.getfield 302, 3) := by decide +kernel
theorem dX10_tries_22 : decode M_X10_tries.2.1 22 = .ok (.iconst 1, 1) := by decide +kernel
theorem dX10_tries_23 : decode M_X10_tries.2.1 23 = .ok (.iadd, 1) := by decide +kernel
theorem dX10_tries_24 : decode M_X10_tries.2.1 24 = .ok (.putfield 302, 3) := by decide +kernel
theorem dX10_tries_27 : decode M_X10_tries.2.1 27 = .ok (.aload_n 0, 1) := by decide +kernel
theorem dX10_tries_28 : decode M_X10_tries.2.1 28 = .ok (.invokevirtual 309, 3) := by decide +kernel
theorem dX10_tries_31 : decode M_X10_tries.2.1 31 = .ok (.aload_n 0, 1) := by decide +kernel
theorem dX10_tries_32 : decode M_X10_tries.2.1 32 = .ok (.iload_n 1, 1) := by decide +kernel
theorem dX10_tries_33 : decode M_X10_tries.2.1 33 = .ok (.iload_n 2, 1) := by decide +kernel
theorem dX10_tries_34 : decode M_X10_tries.2.1 34 = .ok (.invokevirtual 163, 3) := by decide +kernel
theorem dX10_tries_37 : decode M_X10_tries.2.1 37 = .ok (.ifCond .eq 12, 3) := by decide +kernel
theorem dX10_tries_40 : decode M_X10_tries.2.1 40 = .ok (.aload_n 0, 1) := by decide +kernel
theorem dX10_tries_41 : decode M_X10_tries.2.1 41 = .ok (.invokevirtual 312, 3) := by decide +kernel
theorem dX10_tries_44 : decode M_X10_tries.2.1 44 = .ok (.ifCond .ne 5, 3) := by decide +kernel
theorem dX10_tries_47 : decode M_X10_tries.2.1 47 = .ok (.iconst 1, 1) := by decide +kernel
theorem dX10_tries_48 : decode M_X10_tries.2.1 48 = .ok (.ireturn, 1) := by decide +kernel
theorem dX10_tries_49 : decode M_X10_tries.2.1 49 = .ok (.aload_n 0, 1) := by decide +kernel
theorem dX10_tries_50 : decode M_X10_tries.2.1 50 = .ok (.invokevirtual 315, 3) := by decide +kernel
theorem dX10_tries_53 : decode M_X10_tries.2.1 53 = .ok (.iconst 0, 1) := by decide +kernel
theorem dX10_tries_54 : decode M_X10_tries.2.1 54 = .ok (.ireturn, 1) := by decide +kernel
theorem w_X10_tries {X : ZX} {d n : Nat} {P : Int → ZSto → Prop} {x1 : Int} {x2 : Int} {σ : ZSto} (hn : 104 ≤ n)  (hx1 : R32 x1) (hx2 : R32 x2)
    (h : (¬ gI σ 73 40 = 600 → R32 ((gI σ 73 40) + 1) ∧ ZkV X M_X10_pushes d n [.ref (zB X + 73)] (sI σ 73 40 ((gI σ 73 40) + 1)) (fun σ8 => ZkZ X M_X10_put d n [.ref (zB X + 73), iV x1, iV x2] σ8 (fun v12 σ13 => (v12 = 0 → ZkV X M_X10_pops d n [.ref (zB X + 73)] σ13 (fun σ21 => P 0 σ21)) ∧ (¬ (v12 = 0) → ZkZ X M_X10_isBack d n [.ref (zB X + 73)] σ13 (fun v26 σ27 => (¬ v26 = 0 → ZkV X M_X10_pops d n [.ref (zB X + 73)] σ27 (fun σ35 => P 0 σ35)) ∧ (v26 = 0 → P 1 σ27)))))) ∧ (gI σ 73 40 = 600 → P 0 (sI σ 73 43 1))) :
    ZkZ X M_X10_tries (d + 1) n [.ref (zB X + 73), iV x1, iV x2] σ P := by
  refine zk_of (ls := [some (.ref (zB X + 73)), some (iV x1), some (iV x2)]) pl_RX10 (Nat.le_of_ble_eq_true rfl) rfl (fun k0 => ?_)
  unfold Zn
  refine r_aload_n dX10_tries_0 rfl ?_
  refine r_getI dX10_tries_1 kf_RX10_302 (zlt hn rfl) sh_73 (Or.inl rfl) rfl ?_
  refine r_sipush dX10_tries_4 rfl ?_
  refine r_icmp_ne (t := 17) dX10_tries_7 rfl (k0.2.1 _ _) (r32c rfl) (fun c1 => ?_) (fun c2 => ?_)
  · have h3 := h.1 c1
    refine r_aload_n dX10_tries_17 rfl ?_
    refine r_dup dX10_tries_18 rfl ?_
    refine r_getI dX10_tries_19 kf_RX10_302 (zlt hn rfl) sh_73 (Or.inl rfl) rfl ?_
    refine r_iconst dX10_tries_22 ?_
    refine r_iadd dX10_tries_23 ?_
    obtain ⟨h4, h5⟩ := h3
    refine r_putI dX10_tries_24 kf_RX10_302 (zlt hn rfl) sh_73 rfl (Or.inl rfl) ?_
    have k6 := zok_o (i := 40) (x := (gI σ 73 40) + 1) k0 sh_73 h4
    refine r_aload_n dX10_tries_27 rfl ?_
    refine n_callV (N := M_X10_pushes) (As := []) (st := []) dX10_tries_28 mk_X10_pushes km_RX10_309 kd_X10_pushes rfl (zlt hn rfl) sh_73 (q := (RX10, TX10, 52)) rfl rfl (zFits_rm d n n n (Nat.le_refl n)) (Nat.le_of_ble_eq_true rfl) rfl k6 h5 ?_
    rintro _ σ8 k9 ⟨rfl, h11⟩
    change Zm _ _ _ _ _ _ 31 _ [] _
    refine r_aload_n dX10_tries_31 rfl ?_
    refine r_iload_n dX10_tries_32 rfl ?_
    refine r_iload_n dX10_tries_33 rfl ?_
    refine n_callV (N := M_X10_put) (As := [iV x1, iV x2]) (st := []) dX10_tries_34 mk_X10_put km_RX10_163 kd_X10_put rfl (zlt hn rfl) sh_73 (q := (RX10, TX10, 52)) rfl rfl (zFits_rm d n n n (Nat.le_refl n)) (Nat.le_of_ble_eq_true rfl) rfl k9 h11 ?_
    rintro _ σ13 k14 ⟨v12, rfl, h15, h16⟩
    change Zm _ _ _ _ _ _ 37 _ [iV v12] _
    refine r_if_eq (t := 49) dX10_tries_37 rfl (r32_z h15)  (fun c17 => ?_) (fun c18 => ?_)
    · have h19 := h16.1 c17
      refine r_aload_n dX10_tries_49 rfl ?_
      refine n_callV (N := M_X10_pops) (As := []) (st := []) dX10_tries_50 mk_X10_pops km_RX10_315 kd_X10_pops rfl (zlt hn rfl) sh_73 (q := (RX10, TX10, 52)) rfl rfl (zFits_rm d n n n (Nat.le_refl n)) (Nat.le_of_ble_eq_true rfl) rfl k14 h19 ?_
      rintro _ σ21 k22 ⟨rfl, h24⟩
      change Zm _ _ _ _ _ _ 53 _ [] _
      refine r_iconst dX10_tries_53 ?_
      exact r_zreturn dX10_tries_54 rfl (Or.inl rfl) ⟨k22, _, rfl, (Or.inl rfl), h24⟩
    · have h25 := h16.2 c18
      refine r_aload_n dX10_tries_40 rfl ?_
      refine n_callV (N := M_X10_isBack) (As := []) (st := []) dX10_tries_41 mk_X10_isBack km_RX10_312 kd_X10_isBack rfl (zlt hn rfl) sh_73 (q := (RX10, TX10, 52)) rfl rfl (zFits_rm d n n n (Nat.le_refl n)) (Nat.le_of_ble_eq_true rfl) rfl k14 h25 ?_
      rintro _ σ27 k28 ⟨v26, rfl, h29, h30⟩
      change Zm _ _ _ _ _ _ 44 _ [iV v26] _
      refine r_if_ne (t := 49) dX10_tries_44 rfl (r32_z h29)  (fun c31 => ?_) (fun c32 => ?_)
      · have h33 := h30.1 c31
        refine r_aload_n dX10_tries_49 rfl ?_
        refine n_callV (N := M_X10_pops) (As := []) (st := []) dX10_tries_50 mk_X10_pops km_RX10_315 kd_X10_pops rfl (zlt hn rfl) sh_73 (q := (RX10, TX10, 52)) rfl rfl (zFits_rm d n n n (Nat.le_refl n)) (Nat.le_of_ble_eq_true rfl) rfl k28 h33 ?_
        rintro _ σ35 k36 ⟨rfl, h38⟩
        change Zm _ _ _ _ _ _ 53 _ [] _
        refine r_iconst dX10_tries_53 ?_
        exact r_zreturn dX10_tries_54 rfl (Or.inl rfl) ⟨k36, _, rfl, (Or.inl rfl), h38⟩
      · have h39 := h30.2 c32
        refine r_iconst dX10_tries_47 ?_
        exact r_zreturn dX10_tries_48 rfl (Or.inr rfl) ⟨k28, _, rfl, (Or.inr rfl), h39⟩
  · have h40 := h.2 c2
    refine r_aload_n dX10_tries_10 rfl ?_
    refine r_iconst dX10_tries_11 ?_
    refine r_putI dX10_tries_12 kf_RX10_305 (zlt hn rfl) sh_73 rfl (Or.inr ⟨rfl, (Or.inr rfl)⟩) ?_
    have k41 := zok_o (i := 43) (x := 1) k0 sh_73 (r32c rfl)
    refine r_iconst dX10_tries_15 ?_
    exact r_zreturn dX10_tries_16 rfl (Or.inl rfl) ⟨k41, _, rfl, (Or.inl rfl), h40⟩
/-! StoneRoomModel.isBack -/
theorem dX10_isBack_0 : decode M_X10_isBack.2.1 0 = .ok (.aload_n 0, 1) := by decide +kernel
theorem dX10_isBack_1 : decode M_X10_isBack.2.1 1 = .ok (.getfield 299, 3) := by decide +kernel
theorem dX10_isBack_4 : decode M_X10_isBack.2.1 4 = .ok (.iconst 2, 1) := by decide +kernel
theorem dX10_isBack_5 : decode M_X10_isBack.2.1 5 = .ok (.if_icmp .ge 5, 3) := by decide +kernel
theorem dX10_isBack_8 : decode M_X10_isBack.2.1 8 = .ok (.iconst 0, 1) := by decide +kernel
theorem dX10_isBack_9 : decode M_X10_isBack.2.1 9 = .ok (.ireturn, 1) := by decide +kernel
theorem dX10_isBack_10 : decode M_X10_isBack.2.1 10 = .ok (.iconst 0, 1) := by decide +kernel
theorem dX10_isBack_11 : decode M_X10_isBack.2.1 11 = .ok (.istore_n 1, 1) := by decide +kernel
theorem dX10_isBack_12 : decode M_X10_isBack.2.1 12 = .ok (.iload_n 1, 1) := by decide +kernel
theorem dX10_isBack_13 : decode M_X10_isBack.2.1 13 = .ok (.bipush 81, 2) := by decide +kernel
theorem dX10_isBack_15 : decode M_X10_isBack.2.1 15 = .ok (.if_icmp .ge 36, 3) := by decide +kernel
theorem dX10_isBack_18 : decode M_X10_isBack.2.1 18 = .ok (.aload_n 0, 1) := by decide +kernel
theorem dX10_isBack_19 : decode M_X10_isBack.2.1 19 = .ok (.getfield 90, 3) := by decide +kernel
theorem dX10_isBack_22 : decode M_X10_isBack.2.1 22 = .ok (.bipush 81, 2) := by decide +kernel
theorem dX10_isBack_24 : decode M_X10_isBack.2.1 24 = .ok (.aload_n 0, 1) := by decide +kernel
theorem dX10_isBack_25 : decode M_X10_isBack.2.1 25 = .ok (.getfield 299, 3) := by decide +kernel
theorem dX10_isBack_28 : decode M_X10_isBack.2.1 28 = .ok (.iconst 2, 1) := by decide +kernel
theorem dX10_isBack_29 : decode M_X10_isBack.2.1 29 = .ok (.isub, 1) := by decide +kernel
theorem dX10_isBack_30 : decode M_X10_isBack.2.1 30 = .ok (.imul, 1) := by decide +kernel
theorem dX10_isBack_31 : decode M_X10_isBack.2.1 31 = .ok (.iload_n 1, 1) := by decide +kernel
theorem dX10_isBack_32 : decode M_X10_isBack.2.1 32 = .ok (.iadd, 1) := by decide +kernel
theorem dX10_isBack_33 : decode M_X10_isBack.2.1 33 = .ok (.baload, 1) := by decide +kernel
theorem dX10_isBack_34 : decode M_X10_isBack.2.1 34 = .ok (.aload_n 0, 1) := by decide +kernel
theorem dX10_isBack_35 : decode M_X10_isBack.2.1 35 = .ok (.getfield 46, 3) := by decide +kernel
theorem dX10_isBack_38 : decode M_X10_isBack.2.1 38 = .ok (.iload_n 1, 1) := by decide +kernel
theorem dX10_isBack_39 : decode M_X10_isBack.2.1 39 = .ok (.baload, 1) := by decide +kernel
theorem dX10_isBack_40 : decode M_X10_isBack.2.1 40 = .ok (.if_icmp .eq 5, 3) := by decide +kernel
theorem dX10_isBack_43 : decode M_X10_isBack.2.1 43 = .ok (.iconst 0, 1) := by decide +kernel
theorem dX10_isBack_44 : decode M_X10_isBack.2.1 44 = .ok (.ireturn, 1) := by decide +kernel
theorem dX10_isBack_45 : decode M_X10_isBack.2.1 45 = .ok (.iinc 1 1, 3) := by decide +kernel
theorem dX10_isBack_48 : decode M_X10_isBack.2.1 48 = .ok (.goto (-36), 3) := by decide +kernel
theorem dX10_isBack_51 : decode M_X10_isBack.2.1 51 = .ok (.iconst 1, 1) := by decide +kernel
theorem dX10_isBack_52 : decode M_X10_isBack.2.1 52 = .ok (.ireturn, 1) := by decide +kernel
def L_X10_isBack_12 (X : ZX) (d n : Nat) (P : Option Value → ZSto → Prop) (x1 : Int) (σ : ZSto) : Prop := R32 x1 → ZOk n σ → Zn X M_X10_isBack d n P 12 [some (.ref (zB X + 73)), some (iV x1)] [] σ
theorem w_X10_isBack {X : ZX} {d n : Nat} {P : Int → ZSto → Prop}  {σ : ZSto} (hn : 104 ≤ n)  
    (h : (2 ≤ gI σ 73 39 → L_X10_isBack_12 X d n (zpZ P) 0 σ) ∧ (¬ (2 ≤ gI σ 73 39) → P 0 σ)) :
    ZkZ X M_X10_isBack (d + 1) n [.ref (zB X + 73)] σ P := by
  refine zk_of (ls := [some (.ref (zB X + 73)), none]) pl_RX10 (Nat.le_of_ble_eq_true rfl) rfl (fun k0 => ?_)
  unfold Zn
  refine r_aload_n dX10_isBack_0 rfl ?_
  refine r_getI dX10_isBack_1 kf_RX10_299 (zlt hn rfl) sh_73 (Or.inl rfl) rfl ?_
  refine r_iconst dX10_isBack_4 ?_
  refine r_icmp_ge (t := 10) dX10_isBack_5 rfl (k0.2.1 _ _) (r32c rfl) (fun c1 => ?_) (fun c2 => ?_)
  · have h3 := h.1 c1
    refine r_iconst dX10_isBack_10 ?_
    refine r_istore_n dX10_isBack_11 rfl rfl ?_
    exact r_mask [true, true] rfl (h3 (r32c rfl) k0)
  · have h4 := h.2 c2
    refine r_iconst dX10_isBack_8 ?_
    exact r_zreturn dX10_isBack_9 rfl (Or.inl rfl) ⟨k0, _, rfl, (Or.inl rfl), h4⟩
theorem b_X10_isBack_12 {X : ZX} {d n : Nat} {P : Int → ZSto → Prop} {x1 : Int} {σ : ZSto} (hn : 104 ≤ n) 
    (h : (81 ≤ x1 → P 1 σ) ∧ (¬ (81 ≤ x1) → (0 ≤ (81 * ((gI σ 73 39) - 2)) + x1 ∧ (81 * ((gI σ 73 39) - 2)) + x1 < 49000) ∧ (0 ≤ x1 ∧ x1 < 81) ∧ (gI σ 97 (((81 * ((gI σ 73 39) - 2)) + x1).toNat) = gI σ 84 x1.toNat → R32 (x1 + 1) ∧ L_X10_isBack_12 X d n (zpZ P) (x1 + 1) σ) ∧ (¬ (gI σ 97 (((81 * ((gI σ 73 39) - 2)) + x1).toNat) = gI σ 84 x1.toNat) → P 0 σ))) :
    L_X10_isBack_12 X d n (zpZ P) x1 σ := by
  intro hx1 k0
  unfold Zn
  refine r_iload_n dX10_isBack_12 rfl ?_
  refine r_bipush dX10_isBack_13 rfl ?_
  refine r_icmp_ge (t := 51) dX10_isBack_15 rfl hx1 (r32c rfl) (fun c1 => ?_) (fun c2 => ?_)
  · have h3 := h.1 c1
    refine r_iconst dX10_isBack_51 ?_
    exact r_zreturn dX10_isBack_52 rfl (Or.inr rfl) ⟨k0, _, rfl, (Or.inr rfl), h3⟩
  · have h4 := h.2 c2
    refine r_aload_n dX10_isBack_18 rfl ?_
    refine r_getP (a := 97) dX10_isBack_19 kf_RX10_90 (zlt hn rfl) sh_73 rfl (k0.1 _ _ _ (zlt hn rfl) p_73_38) ?_
    refine r_bipush dX10_isBack_22 rfl ?_
    refine r_aload_n dX10_isBack_24 rfl ?_
    refine r_getI dX10_isBack_25 kf_RX10_299 (zlt hn rfl) sh_73 (Or.inl rfl) rfl ?_
    refine r_iconst dX10_isBack_28 ?_
    refine r_isub dX10_isBack_29 ?_
    refine r_imul dX10_isBack_30 ?_
    refine r_iload_n dX10_isBack_31 rfl ?_
    refine r_iadd dX10_isBack_32 ?_
    obtain ⟨h5, h6⟩ := h4
    refine r_baloadE dX10_isBack_33 (zlt hn rfl) sh_97 h5.1 h5.2 rfl ?_
    refine r_aload_n dX10_isBack_34 rfl ?_
    refine r_getP (a := 84) dX10_isBack_35 kf_RX10_46 (zlt hn rfl) sh_73 rfl (k0.1 _ _ _ (zlt hn rfl) p_73_14) ?_
    refine r_iload_n dX10_isBack_38 rfl ?_
    obtain ⟨h7, h8⟩ := h6
    refine r_baloadE dX10_isBack_39 (zlt hn rfl) sh_84 h7.1 h7.2 rfl ?_
    refine r_icmp_eq (t := 45) dX10_isBack_40 rfl (k0.2.1 _ _) (k0.2.1 _ _) (fun c9 => ?_) (fun c10 => ?_)
    · have h11 := h8.1 c9
      refine r_iinc dX10_isBack_45 rfl rfl rfl ?_
      refine r_goto (t := 12) dX10_isBack_48 rfl ?_
      obtain ⟨h12, h13⟩ := h11
      exact r_mask [true, true] rfl (h13 h12 k0)
    · have h14 := h8.2 c10
      refine r_iconst dX10_isBack_43 ?_
      exact r_zreturn dX10_isBack_44 rfl (Or.inl rfl) ⟨k0, _, rfl, (Or.inl rfl), h14⟩
/-! StoneRoomModel.freeBehind -/
theorem dX10_freeBehind_0 : decode M_X10_freeBehind.2.1 0 = .ok (.iload_n 1, 1) := by decide +kernel
theorem dX10_freeBehind_1 : decode M_X10_freeBehind.2.1 1 = .ok (.iconst 1, 1) := by decide +kernel
theorem dX10_freeBehind_2 : decode M_X10_freeBehind.2.1 2 = .ok (.iadd, 1) := by decide +kernel
theorem dX10_freeBehind_3 : decode M_X10_freeBehind.2.1 3 = .ok (.istore_n 2, 1) := by decide +kernel
theorem dX10_freeBehind_4 : decode M_X10_freeBehind.2.1 4 = .ok (.iload_n 2, 1) := by decide +kernel
theorem dX10_freeBehind_5 : decode M_X10_freeBehind.2.1 5 = .ok (.aload_n 0, 1) := by decide +kernel
theorem dX10_freeBehind_6 : decode M_X10_freeBehind.2.1 6 = .ok (.getfield 139, 3) := by decide +kernel
theorem dX10_freeBehind_9 : decode M_X10_freeBehind.2.1 9 = .ok (.aload_n 0, 1) := by decide +kernel
theorem dX10_freeBehind_10 : decode M_X10_freeBehind.2.1 10 = .ok (.getfield 139, 3) := by decide +kernel
theorem dX10_freeBehind_13 : decode M_X10_freeBehind.2.1 13 = .ok (.imul, 1) := by decide +kernel
theorem dX10_freeBehind_14 : decode M_X10_freeBehind.2.1 14 = .ok (.if_icmp .ge 18, 3) := by decide +kernel
theorem dX10_freeBehind_17 : decode M_X10_freeBehind.2.1 17 = .ok (.aload_n 0, 1) := by decide +kernel
theorem dX10_freeBehind_18 : decode M_X10_freeBehind.2.1 18 = .ok (.getfield 53, 3) := by decide +kernel
theorem dX10_freeBehind_21 : decode M_X10_freeBehind.2.1 21 = .ok (.iload_n 2, 1) := by decide +kernel
theorem dX10_freeBehind_22 : decode M_X10_freeBehind.2.1 22 = .ok (.baload, 1) := by decide +kernel
theorem dX10_freeBehind_23 : decode M_X10_freeBehind.2.1 23 = .ok (.ifCond .ne 9, 3) := by decide +kernel
theorem dX10_freeBehind_26 : decode M_X10_freeBehind.2.1 26 = .ok (.iinc 2 1, 3) := by decide +kernel
theorem dX10_freeBehind_29 : decode M_X10_freeBehind.2.1 29 = .ok (.goto (-25), 3) := by decide +kernel
theorem dX10_freeBehind_32 : decode M_X10_freeBehind.2.1 32 = .ok (.iload_n 2, 1) := by decide +kernel
theorem dX10_freeBehind_33 : decode M_X10_freeBehind.2.1 33 = .ok (.aload_n 0, 1) := by decide +kernel
theorem dX10_freeBehind_34 : decode M_X10_freeBehind.2.1 34 = .ok (.getfield 139, 3) := by decide +kernel
theorem dX10_freeBehind_37 : decode M_X10_freeBehind.2.1 37 = .ok (.aload_n 0, 1) := by decide +kernel
theorem dX10_freeBehind_38 : decode M_X10_freeBehind.2.1 38 = .ok (.getfield 139, 3) := by decide +kernel
theorem dX10_freeBehind_41 : decode M_X10_freeBehind.2.1 41 = .ok (.imul, 1) := by decide +kernel
theorem dX10_freeBehind_42 : decode M_X10_freeBehind.2.1 42 = .ok (.if_icmp .ge 7, 3) := by decide +kernel
theorem dX10_freeBehind_45 : decode M_X10_freeBehind.2.1 45 = .ok (.iload_n 2, 1) := by decide +kernel
theorem dX10_freeBehind_46 : decode M_X10_freeBehind.2.1 46 = .ok (.goto 4, 3) := by decide +kernel
theorem dX10_freeBehind_49 : decode M_X10_freeBehind.2.1 49 = .ok (.iconst (-1), 1) := by decide +kernel
theorem dX10_freeBehind_50 : decode M_X10_freeBehind.2.1 50 = .ok (.ireturn, 1) := by decide +kernel
def L_X10_freeBehind_4 (X : ZX) (d n : Nat) (P : Option Value → ZSto → Prop) (x2 : Int) (σ : ZSto) : Prop := R32 x2 → ZOk n σ → Zn X M_X10_freeBehind d n P 4 [some (.ref (zB X + 73)), none, some (iV x2)] [] σ
theorem w_X10_freeBehind {X : ZX} {d n : Nat} {P : Int → ZSto → Prop} {x1 : Int} {σ : ZSto} (hn : 104 ≤ n)  (hx1 : R32 x1)
    (h : R32 (x1 + 1) ∧ L_X10_freeBehind_4 X d n (zpI P) (x1 + 1) σ) :
    ZkI X M_X10_freeBehind (d + 1) n [.ref (zB X + 73), iV x1] σ P := by
  refine zk_of (ls := [some (.ref (zB X + 73)), some (iV x1), none]) pl_RX10 (Nat.le_of_ble_eq_true rfl) rfl (fun k0 => ?_)
  unfold Zn
  refine r_iload_n dX10_freeBehind_0 rfl ?_
  refine r_iconst dX10_freeBehind_1 ?_
  refine r_iadd dX10_freeBehind_2 ?_
  refine r_istore_n dX10_freeBehind_3 rfl rfl ?_
  obtain ⟨h1, h2⟩ := h
  exact r_mask [true, false, true] rfl (h2 h1 k0)
theorem b_X10_freeBehind_4 {X : ZX} {d n : Nat} {P : Int → ZSto → Prop} {x2 : Int} {σ : ZSto} (hn : 104 ≤ n) 
    (h : R32 ((gI σ 73 13) * (gI σ 73 13)) ∧ ((gI σ 73 13) * (gI σ 73 13) ≤ x2 → ((gI σ 73 13) * (gI σ 73 13) ≤ x2 → P ((-1)) σ) ∧ (¬ ((gI σ 73 13) * (gI σ 73 13) ≤ x2) → P x2 σ)) ∧ (¬ ((gI σ 73 13) * (gI σ 73 13) ≤ x2) → (0 ≤ x2 ∧ x2 < 81) ∧ (¬ gI σ 86 x2.toNat = 0 → ((gI σ 73 13) * (gI σ 73 13) ≤ x2 → P ((-1)) σ) ∧ (¬ ((gI σ 73 13) * (gI σ 73 13) ≤ x2) → P x2 σ)) ∧ (gI σ 86 x2.toNat = 0 → R32 (x2 + 1) ∧ L_X10_freeBehind_4 X d n (zpI P) (x2 + 1) σ))) :
    L_X10_freeBehind_4 X d n (zpI P) x2 σ := by
  intro hx2 k0
  unfold Zn
  refine r_iload_n dX10_freeBehind_4 rfl ?_
  refine r_aload_n dX10_freeBehind_5 rfl ?_
  refine r_getI dX10_freeBehind_6 kf_RX10_139 (zlt hn rfl) sh_73 (Or.inl rfl) rfl ?_
  refine r_aload_n dX10_freeBehind_9 rfl ?_
  refine r_getI dX10_freeBehind_10 kf_RX10_139 (zlt hn rfl) sh_73 (Or.inl rfl) rfl ?_
  refine r_imul dX10_freeBehind_13 ?_
  obtain ⟨h1, h2⟩ := h
  refine r_icmp_ge (t := 32) dX10_freeBehind_14 rfl hx2 h1 (fun c3 => ?_) (fun c4 => ?_)
  · have h5 := h2.1 c3
    refine r_iload_n dX10_freeBehind_32 rfl ?_
    refine r_aload_n dX10_freeBehind_33 rfl ?_
    refine r_getI dX10_freeBehind_34 kf_RX10_139 (zlt hn rfl) sh_73 (Or.inl rfl) rfl ?_
    refine r_aload_n dX10_freeBehind_37 rfl ?_
    refine r_getI dX10_freeBehind_38 kf_RX10_139 (zlt hn rfl) sh_73 (Or.inl rfl) rfl ?_
    refine r_imul dX10_freeBehind_41 ?_
    refine r_icmp_ge (t := 49) dX10_freeBehind_42 rfl hx2 h1 (fun c6 => ?_) (fun c7 => ?_)
    · have h8 := h5.1 c6
      refine r_iconst dX10_freeBehind_49 ?_
      exact r_ireturn dX10_freeBehind_50 rfl ⟨k0, _, rfl, (r32c rfl), h8⟩
    · have h9 := h5.2 c7
      refine r_iload_n dX10_freeBehind_45 rfl ?_
      refine r_goto (t := 50) dX10_freeBehind_46 rfl ?_
      exact r_ireturn dX10_freeBehind_50 rfl ⟨k0, _, rfl, hx2, h9⟩
  · have h10 := h2.2 c4
    refine r_aload_n dX10_freeBehind_17 rfl ?_
    refine r_getP (a := 86) dX10_freeBehind_18 kf_RX10_53 (zlt hn rfl) sh_73 rfl (k0.1 _ _ _ (zlt hn rfl) p_73_16) ?_
    refine r_iload_n dX10_freeBehind_21 rfl ?_
    obtain ⟨h11, h12⟩ := h10
    refine r_zaloadE dX10_freeBehind_22 (zlt hn rfl) sh_86 h11.1 h11.2 rfl ?_
    refine r_if_ne (t := 32) dX10_freeBehind_23 rfl (k0.2.1 _ _)  (fun c13 => ?_) (fun c14 => ?_)
    · have h15 := h12.1 c13
      refine r_iload_n dX10_freeBehind_32 rfl ?_
      refine r_aload_n dX10_freeBehind_33 rfl ?_
      refine r_getI dX10_freeBehind_34 kf_RX10_139 (zlt hn rfl) sh_73 (Or.inl rfl) rfl ?_
      refine r_aload_n dX10_freeBehind_37 rfl ?_
      refine r_getI dX10_freeBehind_38 kf_RX10_139 (zlt hn rfl) sh_73 (Or.inl rfl) rfl ?_
      refine r_imul dX10_freeBehind_41 ?_
      refine r_icmp_ge (t := 49) dX10_freeBehind_42 rfl hx2 h1 (fun c16 => ?_) (fun c17 => ?_)
      · have h18 := h15.1 c16
        refine r_iconst dX10_freeBehind_49 ?_
        exact r_ireturn dX10_freeBehind_50 rfl ⟨k0, _, rfl, (r32c rfl), h18⟩
      · have h19 := h15.2 c17
        refine r_iload_n dX10_freeBehind_45 rfl ?_
        refine r_goto (t := 50) dX10_freeBehind_46 rfl ?_
        exact r_ireturn dX10_freeBehind_50 rfl ⟨k0, _, rfl, hx2, h19⟩
    · have h20 := h12.2 c14
      refine r_iinc dX10_freeBehind_26 rfl rfl rfl ?_
      refine r_goto (t := 4) dX10_freeBehind_29 rfl ?_
      obtain ⟨h21, h22⟩ := h20
      exact r_mask [true, false, true] rfl (h22 h21 k0)
/-! StoneRoomModel.takesChain -/
theorem dX10_takesChain_0 : decode M_X10_takesChain.2.1 0 = .ok (.aload_n 0, 1) := by decide +kernel
theorem dX10_takesChain_1 : decode M_X10_takesChain.2.1 1 = .ok (.aload_n 0, 1) := by decide +kernel
theorem dX10_takesChain_2 : decode M_X10_takesChain.2.1 2 = .ok (.getfield 318, 3) := by decide +kernel
theorem dX10_takesChain_5 : decode M_X10_takesChain.2.1 5 = .ok (.invokevirtual 148, 3) := by decide +kernel
theorem dX10_takesChain_8 : decode M_X10_takesChain.2.1 8 = .ok (.istore_n 2, 1) := by decide +kernel
theorem dX10_takesChain_9 : decode M_X10_takesChain.2.1 9 = .ok (.aload_n 0, 1) := by decide +kernel
theorem dX10_takesChain_10 : decode M_X10_takesChain.2.1 10 = .ok (.iconst (-1), 1) := by decide +kernel
theorem dX10_takesChain_11 : decode M_X10_takesChain.2.1 11 = .ok (.invokevirtual 321, 3) := by decide +kernel
theorem dX10_takesChain_14 : decode M_X10_takesChain.2.1 14 = .ok (.istore_n 3, 1) := by decide +kernel
theorem dX10_takesChain_15 : decode M_X10_takesChain.2.1 15 = .ok (.aload_n 0, 1) := by decide +kernel
theorem dX10_takesChain_16 : decode M_X10_takesChain.2.1 16 = .ok (.iload_n 3, 1) := by decide +kernel
theorem dX10_takesChain_17 : decode M_X10_takesChain.2.1 17 = .ok (.invokevirtual 321, 3) := by decide +kernel
theorem dX10_takesChain_20 : decode M_X10_takesChain.2.1 20 = .ok (.istore 4, 2) := by decide +kernel
theorem dX10_takesChain_22 : decode M_X10_takesChain.2.1 22 = .ok (.iload_n 2, 1) := by decide +kernel
theorem dX10_takesChain_23 : decode M_X10_takesChain.2.1 23 = .ok (.iconst 1, 1) := by decide +kernel
theorem dX10_takesChain_24 : decode M_X10_takesChain.2.1 24 = .ok (.if_icmp .ne 25, 3) := by decide +kernel
theorem dX10_takesChain_27 : decode M_X10_takesChain.2.1 27 = .ok (.aload_n 0, 1) := by decide +kernel
theorem dX10_takesChain_28 : decode M_X10_takesChain.2.1 28 = .ok (.iload_n 3, 1) := by decide +kernel
theorem dX10_takesChain_29 : decode M_X10_takesChain.2.1 29 = .ok (.iconst 3, 1) := by decide +kernel
theorem dX10_takesChain_30 : decode M_X10_takesChain.2.1 30 = .ok (.iload_n 1, 1) := by decide +kernel
theorem dX10_takesChain_31 : decode M_X10_takesChain.2.1 31 = .ok (.isub, 1) := by decide +kernel
theorem dX10_takesChain_32 : decode M_X10_takesChain.2.1 32 = .ok (.invokevirtual 324, 3) := by decide +kernel
theorem dX10_takesChain_35 : decode M_X10_takesChain.2.1 35 = .ok (.istore 5, 2) := by decide +kernel
theorem dX10_takesChain_37 : decode M_X10_takesChain.2.1 37 = .ok (.iload 5, 2) := by decide +kernel
theorem dX10_takesChain_39 : decode M_X10_takesChain.2.1 39 = .ok (.ifCond .eq 7, 3) := by decide +kernel
theorem dX10_takesChain_42 : decode M_X10_takesChain.2.1 42 = .ok (.aload_n 0, 1) := by decide +kernel
theorem dX10_takesChain_43 : decode M_X10_takesChain.2.1 43 = .ok (.invokevirtual 315, 3) := by decide +kernel
theorem dX10_takesChain_46 : decode M_X10_takesChain.2.1 46 = .ok (.iload 5, 2) := by decide +kernel
theorem dX10_takesChain_48 : decode M_X10_takesChain.2.1 48 = .ok (.ireturn, 1) := by decide +kernel
theorem dX10_takesChain_49 : decode M_X10_takesChain.2.1 49 = .ok (.iload_n 2, 1) := by decide +kernel
theorem dX10_takesChain_50 : decode M_X10_takesChain.2.1 50 = .ok (.iconst 2, 1) := by decide +kernel
theorem dX10_takesChain_51 : decode M_X10_takesChain.2.1 51 = .ok (.if_icmp .eq 5, 3) := by decide +kernel
theorem dX10_takesChain_54 : decode M_X10_takesChain.2.1 54 = .ok (.iconst 0, 1) := by decide +kernel
theorem dX10_takesChain_55 : decode M_X10_takesChain.2.1 55 = .ok (.ireturn, 1) := by decide +kernel
theorem dX10_takesChain_56 : decode M_X10_takesChain.2.1 56 = .ok (.iconst 0, 1) := by decide +kernel
theorem dX10_takesChain_57 : decode M_X10_takesChain.2.1 57 = .ok (.istore 5, 2) := by decide +kernel
theorem dX10_takesChain_59 : decode M_X10_takesChain.2.1 59 = .ok (.iload 5, 2) := by decide +kernel
theorem dX10_takesChain_61 : decode M_X10_takesChain.2.1 61 = .ok (.iconst 2, 1) := by decide +kernel
theorem dX10_takesChain_62 : decode M_X10_takesChain.2.1 62 = .ok (.if_icmp .ge 89, 3) := by decide +kernel
theorem dX10_takesChain_65 : decode M_X10_takesChain.2.1 65 = .ok (.aload_n 0, 1) := by decide +kernel
theorem dX10_takesChain_66 : decode M_X10_takesChain.2.1 66 = .ok (.getfield 305, 3) := by decide +kernel
theorem dX10_takesChain_69 : decode M_X10_takesChain.2.1 69 = .ok (.ifCond .ne 82, 3) := by decide +kernel
theorem dX10_takesChain_72 : decode M_X10_takesChain.2.1 72 = .ok (.aload_n 0, 1) := by decide +kernel
theorem dX10_takesChain_73 : decode M_X10_takesChain.2.1 73 = .ok (.iload 5, 2) := by decide +kernel
theorem dX10_takesChain_75 : decode M_X10_takesChain.2.1 75 = .ok (.ifCond .ne 7, 3) := by decide +kernel
theorem dX10_takesChain_78 : decode M_X10_takesChain.2.1 78 = .ok (.iload_n 3, 1) := by decide +kernel
theorem dX10_takesChain_79 : decode M_X10_takesChain.2.1 79 = .ok (.goto 5, 3) := by decide +kernel
theorem dX10_takesChain_82 : decode M_X10_takesChain.2.1 82 = .ok (.iload 4, 2) := by decide +kernel
theorem dX10_takesChain_84 : decode M_X10_takesChain.2.1 84 = .ok (.iconst 3, 1) := by decide +kernel
theorem dX10_takesChain_85 : decode M_X10_takesChain.2.1 85 = .ok (.iload_n 1, 1) := by decide +kernel
theorem dX10_takesChain_86 : decode M_X10_takesChain.2.1 86 = .ok (.isub, 1) := by decide +kernel
theorem dX10_takesChain_87 : decode M_X10_takesChain.2.1 87 = .ok (.invokevirtual 324, 3) := by decide +kernel
theorem dX10_takesChain_90 : decode M_X10_takesChain.2.1 90 = .ok (.ifCond .ne 6, 3) := by decide +kernel
theorem dX10_takesChain_93 : decode M_X10_takesChain.2.1 93 = .ok (.goto 52, 3) := by decide +kernel
theorem dX10_takesChain_96 : decode M_X10_takesChain.2.1 96 = .ok (.aload_n 0, 1) := by decide +kernel
theorem dX10_takesChain_97 : decode M_X10_takesChain.2.1 97 = .ok (.iload_n 1, 1) := by decide +kernel
theorem dX10_takesChain_98 : decode M_X10_takesChain.2.1 98 = .ok (.invokevirtual 327, 3) := by decide +kernel
theorem dX10_takesChain_101 : decode M_X10_takesChain.2.1 101 = .ok (.istore 6, 2) := by decide +kernel
theorem dX10_takesChain_103 : decode M_X10_takesChain.2.1 103 = .ok (.aload_n 0, 1) := by decide +kernel
theorem dX10_takesChain_104 : decode M_X10_takesChain.2.1 104 = .ok (.invokevirtual 315, 3) := by decide +kernel
theorem dX10_takesChain_107 : decode M_X10_takesChain.2.1 107 = .ok (.aload_n 0, 1) := by decide +kernel
theorem dX10_takesChain_108 : decode M_X10_takesChain.2.1 108 = .ok (.getfield 305, 3) := by decide +kernel
theorem dX10_takesChain_111 : decode M_X10_takesChain.2.1 111 = .ok (.ifCond .eq 5, 3) := by decide +kernel
theorem dX10_takesChain_114 : decode M_X10_takesChain.2.1 114 = .ok (.iconst 0, 1) := by decide +kernel
theorem dX10_takesChain_115 : decode M_X10_takesChain.2.1 115 = .ok (.ireturn, 1) := by decide +kernel
theorem dX10_takesChain_116 : decode M_X10_takesChain.2.1 116 = .ok (.iload 6, 2) := by decide +kernel
theorem dX10_takesChain_118 : decode M_X10_takesChain.2.1 118 = .ok (.ifCond .ne 27, 3) := by decide +kernel
theorem dX10_takesChain_121 : decode M_X10_takesChain.2.1 121 = .ok (.aload_n 0, 1) := by decide +kernel
theorem dX10_takesChain_122 : decode M_X10_takesChain.2.1 122 = .ok (.getfield 299, 3) := by decide +kernel
theorem dX10_takesChain_125 : decode M_X10_takesChain.2.1 125 = .ok (.ifCond .ne 18, 3) := by decide +kernel
theorem dX10_takesChain_128 : decode M_X10_takesChain.2.1 128 = .ok (.aload_n 0, 1) := by decide +kernel
theorem dX10_takesChain_129 : decode M_X10_takesChain.2.1 129 = .ok (.iload 5, 2) := by decide +kernel
theorem dX10_takesChain_131 : decode M_X10_takesChain.2.1 131 = .ok (.ifCond .ne 7, 3) := by decide +kernel
theorem dX10_takesChain_134 : decode M_X10_takesChain.2.1 134 = .ok (.iload_n 3, 1) := by decide +kernel
theorem dX10_takesChain_135 : decode M_X10_takesChain.2.1 135 = .ok (.goto 5, 3) := by decide +kernel
theorem dX10_takesChain_138 : decode M_X10_takesChain.2.1 138 = .ok (.iload 4, 2) := by decide +kernel
theorem dX10_takesChain_140 : decode M_X10_takesChain.2.1 140 = .ok (.putfield 96, 3) := by decide +kernel
theorem dX10_takesChain_143 : decode M_X10_takesChain.2.1 143 = .ok (.iconst 1, 1) := by decide +kernel
theorem dX10_takesChain_144 : decode M_X10_takesChain.2.1 144 = .ok (.ireturn, 1) := by decide +kernel
theorem dX10_takesChain_145 : decode M_X10_takesChain.2.1 145 = .ok (.iinc 5 1, 3) := by decide +kernel
theorem dX10_takesChain_148 : decode M_X10_takesChain.2.1 148 = .ok (.goto (-89), 3) := by decide +kernel
theorem dX10_takesChain_151 : decode M_X10_takesChain.2.1 151 = .ok (.iconst 0, 1) := by decide +kernel
theorem dX10_takesChain_152 : decode M_X10_takesChain.2.1 152 = .ok (.ireturn, 1) := by decide +kernel
def L_X10_takesChain_59 (X : ZX) (d n : Nat) (P : Option Value → ZSto → Prop) (x1 : Int) (x3 : Int) (x4 : Int) (x5 : Int) (σ : ZSto) : Prop := R32 x1 → R32 x3 → R32 x4 → R32 x5 → ZOk n σ → Zn X M_X10_takesChain d n P 59 [some (.ref (zB X + 73)), some (iV x1), none, some (iV x3), some (iV x4), some (iV x5), none] [] σ
theorem w_X10_takesChain {X : ZX} {d n : Nat} {P : Int → ZSto → Prop} {x1 : Int} {σ : ZSto} (hn : 104 ≤ n)  (hx1 : R32 x1)
    (h : ZkI X M_X10_flood d n [.ref (zB X + 73), iV (gI σ 73 44)] σ (fun v1 σ2 => ZkI X M_X10_freeBehind d n [.ref (zB X + 73), iV ((-1))] σ2 (fun v6 σ7 => ZkI X M_X10_freeBehind d n [.ref (zB X + 73), iV v6] σ7 (fun v11 σ12 => (¬ v1 = 1 → (v1 = 2 → L_X10_takesChain_59 X d n (zpZ P) x1 v6 v11 0 σ12) ∧ (¬ (v1 = 2) → P 0 σ12)) ∧ (v1 = 1 → ZkZ X M_X10_tries d n [.ref (zB X + 73), iV v6, iV (3 - x1)] σ12 (fun v24 σ25 => (v24 = 0 → P v24 σ25) ∧ (¬ (v24 = 0) → ZkV X M_X10_pops d n [.ref (zB X + 73)] σ25 (fun σ34 => P v24 σ34)))))))) :
    ZkZ X M_X10_takesChain (d + 1) n [.ref (zB X + 73), iV x1] σ P := by
  refine zk_of (ls := [some (.ref (zB X + 73)), some (iV x1), none, none, none, none, none]) pl_RX10 (Nat.le_of_ble_eq_true rfl) rfl (fun k0 => ?_)
  unfold Zn
  refine r_aload_n dX10_takesChain_0 rfl ?_
  refine r_aload_n dX10_takesChain_1 rfl ?_
  refine r_getI dX10_takesChain_2 kf_RX10_318 (zlt hn rfl) sh_73 (Or.inl rfl) rfl ?_
  refine n_callV (N := M_X10_flood) (As := [iV (gI σ 73 44)]) (st := []) dX10_takesChain_5 mk_X10_flood km_RX10_148 kd_X10_flood rfl (zlt hn rfl) sh_73 (q := (RX10, TX10, 52)) rfl rfl (zFits_rm d n n n (Nat.le_refl n)) (Nat.le_of_ble_eq_true rfl) rfl k0 h ?_
  rintro _ σ2 k3 ⟨v1, rfl, h4, h5⟩
  change Zm _ _ _ _ _ _ 8 _ [iV v1] _
  refine r_istore_n dX10_takesChain_8 rfl rfl ?_
  refine r_aload_n dX10_takesChain_9 rfl ?_
  refine r_iconst dX10_takesChain_10 ?_
  refine n_callV (N := M_X10_freeBehind) (As := [iV ((-1))]) (st := []) dX10_takesChain_11 mk_X10_freeBehind km_RX10_321 kd_X10_freeBehind rfl (zlt hn rfl) sh_73 (q := (RX10, TX10, 52)) rfl rfl (zFits_rm d n n n (Nat.le_refl n)) (Nat.le_of_ble_eq_true rfl) rfl k3 h5 ?_
  rintro _ σ7 k8 ⟨v6, rfl, h9, h10⟩
  change Zm _ _ _ _ _ _ 14 _ [iV v6] _
  refine r_istore_n dX10_takesChain_14 rfl rfl ?_
  refine r_aload_n dX10_takesChain_15 rfl ?_
  refine r_iload_n dX10_takesChain_16 rfl ?_
  refine n_callV (N := M_X10_freeBehind) (As := [iV v6]) (st := []) dX10_takesChain_17 mk_X10_freeBehind km_RX10_321 kd_X10_freeBehind rfl (zlt hn rfl) sh_73 (q := (RX10, TX10, 52)) rfl rfl (zFits_rm d n n n (Nat.le_refl n)) (Nat.le_of_ble_eq_true rfl) rfl k8 h10 ?_
  rintro _ σ12 k13 ⟨v11, rfl, h14, h15⟩
  change Zm _ _ _ _ _ _ 20 _ [iV v11] _
  refine r_istore dX10_takesChain_20 rfl rfl ?_
  refine r_iload_n dX10_takesChain_22 rfl ?_
  refine r_iconst dX10_takesChain_23 ?_
  refine r_icmp_ne (t := 49) dX10_takesChain_24 rfl h4 (r32c rfl) (fun c16 => ?_) (fun c17 => ?_)
  · have h18 := h15.1 c16
    refine r_iload_n dX10_takesChain_49 rfl ?_
    refine r_iconst dX10_takesChain_50 ?_
    refine r_icmp_eq (t := 56) dX10_takesChain_51 rfl h4 (r32c rfl) (fun c19 => ?_) (fun c20 => ?_)
    · have h21 := h18.1 c19
      refine r_iconst dX10_takesChain_56 ?_
      refine r_istore dX10_takesChain_57 rfl rfl ?_
      exact r_mask [true, true, false, true, true, true, false] rfl (h21 hx1 h9 h14 (r32c rfl) k13)
    · have h22 := h18.2 c20
      refine r_iconst dX10_takesChain_54 ?_
      exact r_zreturn dX10_takesChain_55 rfl (Or.inl rfl) ⟨k13, _, rfl, (Or.inl rfl), h22⟩
  · have h23 := h15.2 c17
    refine r_aload_n dX10_takesChain_27 rfl ?_
    refine r_iload_n dX10_takesChain_28 rfl ?_
    refine r_iconst dX10_takesChain_29 ?_
    refine r_iload_n dX10_takesChain_30 rfl ?_
    refine r_isub dX10_takesChain_31 ?_
    refine n_callV (N := M_X10_tries) (As := [iV v6, iV (3 - x1)]) (st := []) dX10_takesChain_32 mk_X10_tries km_RX10_324 kd_X10_tries rfl (zlt hn rfl) sh_73 (q := (RX10, TX10, 52)) rfl rfl (zFits_rm d n n n (Nat.le_refl n)) (Nat.le_of_ble_eq_true rfl) rfl k13 h23 ?_
    rintro _ σ25 k26 ⟨v24, rfl, h27, h28⟩
    change Zm _ _ _ _ _ _ 35 _ [iV v24] _
    refine r_istore dX10_takesChain_35 rfl rfl ?_
    refine r_iload dX10_takesChain_37 rfl ?_
    refine r_if_eq (t := 46) dX10_takesChain_39 rfl (r32_z h27)  (fun c29 => ?_) (fun c30 => ?_)
    · have h31 := h28.1 c29
      refine r_iload dX10_takesChain_46 rfl ?_
      exact r_zreturn dX10_takesChain_48 rfl h27 ⟨k26, _, rfl, h27, h31⟩
    · have h32 := h28.2 c30
      refine r_aload_n dX10_takesChain_42 rfl ?_
      refine n_callV (N := M_X10_pops) (As := []) (st := []) dX10_takesChain_43 mk_X10_pops km_RX10_315 kd_X10_pops rfl (zlt hn rfl) sh_73 (q := (RX10, TX10, 52)) rfl rfl (zFits_rm d n n n (Nat.le_refl n)) (Nat.le_of_ble_eq_true rfl) rfl k26 h32 ?_
      rintro _ σ34 k35 ⟨rfl, h37⟩
      change Zm _ _ _ _ _ _ 46 _ [] _
      refine r_iload dX10_takesChain_46 rfl ?_
      exact r_zreturn dX10_takesChain_48 rfl h27 ⟨k35, _, rfl, h27, h37⟩
theorem b_X10_takesChain_59 {X : ZX} {d n : Nat} {P : Int → ZSto → Prop} {x1 : Int} {x3 : Int} {x4 : Int} {x5 : Int} {σ : ZSto} (hn : 104 ≤ n) 
    (h : (2 ≤ x5 → P 0 σ) ∧ (¬ (2 ≤ x5) → (¬ gI σ 73 43 = 0 → P 0 σ) ∧ (gI σ 73 43 = 0 → (¬ x5 = 0 → ZkZ X M_X10_tries d n [.ref (zB X + 73), iV x4, iV (3 - x1)] σ (fun v12 σ13 => (¬ v12 = 0 → ZkZ X M_X10_isSaved d n [.ref (zB X + 73), iV x1] σ13 (fun v20 σ21 => ZkV X M_X10_pops d n [.ref (zB X + 73)] σ21 (fun σ26 => (gI σ26 73 43 = 0 → (¬ v20 = 0 → R32 (x5 + 1) ∧ L_X10_takesChain_59 X d n (zpZ P) x1 x3 x4 (x5 + 1) σ26) ∧ (v20 = 0 → (¬ gI σ26 73 39 = 0 → P 1 σ26) ∧ (gI σ26 73 39 = 0 → (¬ x5 = 0 → P 1 (sI σ26 73 42 x4)) ∧ (x5 = 0 → P 1 (sI σ26 73 42 x3))))) ∧ (¬ (gI σ26 73 43 = 0) → P 0 σ26)))) ∧ (v12 = 0 → R32 (x5 + 1) ∧ L_X10_takesChain_59 X d n (zpZ P) x1 x3 x4 (x5 + 1) σ13))) ∧ (x5 = 0 → ZkZ X M_X10_tries d n [.ref (zB X + 73), iV x3, iV (3 - x1)] σ (fun v54 σ55 => (¬ v54 = 0 → ZkZ X M_X10_isSaved d n [.ref (zB X + 73), iV x1] σ55 (fun v62 σ63 => ZkV X M_X10_pops d n [.ref (zB X + 73)] σ63 (fun σ68 => (gI σ68 73 43 = 0 → (¬ v62 = 0 → R32 (x5 + 1) ∧ L_X10_takesChain_59 X d n (zpZ P) x1 x3 x4 (x5 + 1) σ68) ∧ (v62 = 0 → (¬ gI σ68 73 39 = 0 → P 1 σ68) ∧ (gI σ68 73 39 = 0 → (¬ x5 = 0 → P 1 (sI σ68 73 42 x4)) ∧ (x5 = 0 → P 1 (sI σ68 73 42 x3))))) ∧ (¬ (gI σ68 73 43 = 0) → P 0 σ68)))) ∧ (v54 = 0 → R32 (x5 + 1) ∧ L_X10_takesChain_59 X d n (zpZ P) x1 x3 x4 (x5 + 1) σ55)))))) :
    L_X10_takesChain_59 X d n (zpZ P) x1 x3 x4 x5 σ := by
  intro hx1 hx3 hx4 hx5 k0
  unfold Zn
  refine r_iload dX10_takesChain_59 rfl ?_
  refine r_iconst dX10_takesChain_61 ?_
  refine r_icmp_ge (t := 151) dX10_takesChain_62 rfl hx5 (r32c rfl) (fun c1 => ?_) (fun c2 => ?_)
  · have h3 := h.1 c1
    refine r_iconst dX10_takesChain_151 ?_
    exact r_zreturn dX10_takesChain_152 rfl (Or.inl rfl) ⟨k0, _, rfl, (Or.inl rfl), h3⟩
  · have h4 := h.2 c2
    refine r_aload_n dX10_takesChain_65 rfl ?_
    refine r_getI dX10_takesChain_66 kf_RX10_305 (zlt hn rfl) sh_73 (Or.inr rfl) rfl ?_
    refine r_if_ne (t := 151) dX10_takesChain_69 rfl (k0.2.1 _ _)  (fun c5 => ?_) (fun c6 => ?_)
    · have h7 := h4.1 c5
      refine r_iconst dX10_takesChain_151 ?_
      exact r_zreturn dX10_takesChain_152 rfl (Or.inl rfl) ⟨k0, _, rfl, (Or.inl rfl), h7⟩
    · have h8 := h4.2 c6
      refine r_aload_n dX10_takesChain_72 rfl ?_
      refine r_iload dX10_takesChain_73 rfl ?_
      refine r_if_ne (t := 82) dX10_takesChain_75 rfl hx5  (fun c9 => ?_) (fun c10 => ?_)
      · have h11 := h8.1 c9
        refine r_iload dX10_takesChain_82 rfl ?_
        refine r_iconst dX10_takesChain_84 ?_
        refine r_iload_n dX10_takesChain_85 rfl ?_
        refine r_isub dX10_takesChain_86 ?_
        refine n_callV (N := M_X10_tries) (As := [iV x4, iV (3 - x1)]) (st := []) dX10_takesChain_87 mk_X10_tries km_RX10_324 kd_X10_tries rfl (zlt hn rfl) sh_73 (q := (RX10, TX10, 52)) rfl rfl (zFits_rm d n n n (Nat.le_refl n)) (Nat.le_of_ble_eq_true rfl) rfl k0 h11 ?_
        rintro _ σ13 k14 ⟨v12, rfl, h15, h16⟩
        change Zm _ _ _ _ _ _ 90 _ [iV v12] _
        refine r_if_ne (t := 96) dX10_takesChain_90 rfl (r32_z h15)  (fun c17 => ?_) (fun c18 => ?_)
        · have h19 := h16.1 c17
          refine r_aload_n dX10_takesChain_96 rfl ?_
          refine r_iload_n dX10_takesChain_97 rfl ?_
          refine n_callV (N := M_X10_isSaved) (As := [iV x1]) (st := []) dX10_takesChain_98 mk_X10_isSaved km_RX10_327 kd_X10_isSaved rfl (zlt hn rfl) sh_73 (q := (RX10, TX10, 52)) rfl rfl (zFits_rm d n n n (Nat.le_refl n)) (Nat.le_of_ble_eq_true rfl) rfl k14 h19 ?_
          rintro _ σ21 k22 ⟨v20, rfl, h23, h24⟩
          change Zm _ _ _ _ _ _ 101 _ [iV v20] _
          refine r_istore dX10_takesChain_101 rfl rfl ?_
          refine r_aload_n dX10_takesChain_103 rfl ?_
          refine n_callV (N := M_X10_pops) (As := []) (st := []) dX10_takesChain_104 mk_X10_pops km_RX10_315 kd_X10_pops rfl (zlt hn rfl) sh_73 (q := (RX10, TX10, 52)) rfl rfl (zFits_rm d n n n (Nat.le_refl n)) (Nat.le_of_ble_eq_true rfl) rfl k22 h24 ?_
          rintro _ σ26 k27 ⟨rfl, h29⟩
          change Zm _ _ _ _ _ _ 107 _ [] _
          refine r_aload_n dX10_takesChain_107 rfl ?_
          refine r_getI dX10_takesChain_108 kf_RX10_305 (zlt hn rfl) sh_73 (Or.inr rfl) rfl ?_
          refine r_if_eq (t := 116) dX10_takesChain_111 rfl (k27.2.1 _ _)  (fun c30 => ?_) (fun c31 => ?_)
          · have h32 := h29.1 c30
            refine r_iload dX10_takesChain_116 rfl ?_
            refine r_if_ne (t := 145) dX10_takesChain_118 rfl (r32_z h23)  (fun c33 => ?_) (fun c34 => ?_)
            · have h35 := h32.1 c33
              refine r_iinc dX10_takesChain_145 rfl rfl rfl ?_
              refine r_goto (t := 59) dX10_takesChain_148 rfl ?_
              obtain ⟨h36, h37⟩ := h35
              exact r_mask [true, true, false, true, true, true, false] rfl (h37 hx1 hx3 hx4 h36 k27)
            · have h38 := h32.2 c34
              refine r_aload_n dX10_takesChain_121 rfl ?_
              refine r_getI dX10_takesChain_122 kf_RX10_299 (zlt hn rfl) sh_73 (Or.inl rfl) rfl ?_
              refine r_if_ne (t := 143) dX10_takesChain_125 rfl (k27.2.1 _ _)  (fun c39 => ?_) (fun c40 => ?_)
              · have h41 := h38.1 c39
                refine r_iconst dX10_takesChain_143 ?_
                exact r_zreturn dX10_takesChain_144 rfl (Or.inr rfl) ⟨k27, _, rfl, (Or.inr rfl), h41⟩
              · have h42 := h38.2 c40
                refine r_aload_n dX10_takesChain_128 rfl ?_
                refine r_iload dX10_takesChain_129 rfl ?_
                refine r_if_ne (t := 138) dX10_takesChain_131 rfl hx5  (fun c43 => ?_) (fun c44 => ?_)
                · have h45 := h42.1 c43
                  refine r_iload dX10_takesChain_138 rfl ?_
                  refine r_putI dX10_takesChain_140 kf_RX10_96 (zlt hn rfl) sh_73 rfl (Or.inl rfl) ?_
                  have k46 := zok_o (i := 42) (x := x4) k27 sh_73 hx4
                  refine r_iconst dX10_takesChain_143 ?_
                  exact r_zreturn dX10_takesChain_144 rfl (Or.inr rfl) ⟨k46, _, rfl, (Or.inr rfl), h45⟩
                · have h47 := h42.2 c44
                  refine r_iload_n dX10_takesChain_134 rfl ?_
                  refine r_goto (t := 140) dX10_takesChain_135 rfl ?_
                  refine r_putI dX10_takesChain_140 kf_RX10_96 (zlt hn rfl) sh_73 rfl (Or.inl rfl) ?_
                  have k48 := zok_o (i := 42) (x := x3) k27 sh_73 hx3
                  refine r_iconst dX10_takesChain_143 ?_
                  exact r_zreturn dX10_takesChain_144 rfl (Or.inr rfl) ⟨k48, _, rfl, (Or.inr rfl), h47⟩
          · have h49 := h29.2 c31
            refine r_iconst dX10_takesChain_114 ?_
            exact r_zreturn dX10_takesChain_115 rfl (Or.inl rfl) ⟨k27, _, rfl, (Or.inl rfl), h49⟩
        · have h50 := h16.2 c18
          refine r_goto (t := 145) dX10_takesChain_93 rfl ?_
          refine r_iinc dX10_takesChain_145 rfl rfl rfl ?_
          refine r_goto (t := 59) dX10_takesChain_148 rfl ?_
          obtain ⟨h51, h52⟩ := h50
          exact r_mask [true, true, false, true, true, true, false] rfl (h52 hx1 hx3 hx4 h51 k14)
      · have h53 := h8.2 c10
        refine r_iload_n dX10_takesChain_78 rfl ?_
        refine r_goto (t := 84) dX10_takesChain_79 rfl ?_
        refine r_iconst dX10_takesChain_84 ?_
        refine r_iload_n dX10_takesChain_85 rfl ?_
        refine r_isub dX10_takesChain_86 ?_
        refine n_callV (N := M_X10_tries) (As := [iV x3, iV (3 - x1)]) (st := []) dX10_takesChain_87 mk_X10_tries km_RX10_324 kd_X10_tries rfl (zlt hn rfl) sh_73 (q := (RX10, TX10, 52)) rfl rfl (zFits_rm d n n n (Nat.le_refl n)) (Nat.le_of_ble_eq_true rfl) rfl k0 h53 ?_
        rintro _ σ55 k56 ⟨v54, rfl, h57, h58⟩
        change Zm _ _ _ _ _ _ 90 _ [iV v54] _
        refine r_if_ne (t := 96) dX10_takesChain_90 rfl (r32_z h57)  (fun c59 => ?_) (fun c60 => ?_)
        · have h61 := h58.1 c59
          refine r_aload_n dX10_takesChain_96 rfl ?_
          refine r_iload_n dX10_takesChain_97 rfl ?_
          refine n_callV (N := M_X10_isSaved) (As := [iV x1]) (st := []) dX10_takesChain_98 mk_X10_isSaved km_RX10_327 kd_X10_isSaved rfl (zlt hn rfl) sh_73 (q := (RX10, TX10, 52)) rfl rfl (zFits_rm d n n n (Nat.le_refl n)) (Nat.le_of_ble_eq_true rfl) rfl k56 h61 ?_
          rintro _ σ63 k64 ⟨v62, rfl, h65, h66⟩
          change Zm _ _ _ _ _ _ 101 _ [iV v62] _
          refine r_istore dX10_takesChain_101 rfl rfl ?_
          refine r_aload_n dX10_takesChain_103 rfl ?_
          refine n_callV (N := M_X10_pops) (As := []) (st := []) dX10_takesChain_104 mk_X10_pops km_RX10_315 kd_X10_pops rfl (zlt hn rfl) sh_73 (q := (RX10, TX10, 52)) rfl rfl (zFits_rm d n n n (Nat.le_refl n)) (Nat.le_of_ble_eq_true rfl) rfl k64 h66 ?_
          rintro _ σ68 k69 ⟨rfl, h71⟩
          change Zm _ _ _ _ _ _ 107 _ [] _
          refine r_aload_n dX10_takesChain_107 rfl ?_
          refine r_getI dX10_takesChain_108 kf_RX10_305 (zlt hn rfl) sh_73 (Or.inr rfl) rfl ?_
          refine r_if_eq (t := 116) dX10_takesChain_111 rfl (k69.2.1 _ _)  (fun c72 => ?_) (fun c73 => ?_)
          · have h74 := h71.1 c72
            refine r_iload dX10_takesChain_116 rfl ?_
            refine r_if_ne (t := 145) dX10_takesChain_118 rfl (r32_z h65)  (fun c75 => ?_) (fun c76 => ?_)
            · have h77 := h74.1 c75
              refine r_iinc dX10_takesChain_145 rfl rfl rfl ?_
              refine r_goto (t := 59) dX10_takesChain_148 rfl ?_
              obtain ⟨h78, h79⟩ := h77
              exact r_mask [true, true, false, true, true, true, false] rfl (h79 hx1 hx3 hx4 h78 k69)
            · have h80 := h74.2 c76
              refine r_aload_n dX10_takesChain_121 rfl ?_
              refine r_getI dX10_takesChain_122 kf_RX10_299 (zlt hn rfl) sh_73 (Or.inl rfl) rfl ?_
              refine r_if_ne (t := 143) dX10_takesChain_125 rfl (k69.2.1 _ _)  (fun c81 => ?_) (fun c82 => ?_)
              · have h83 := h80.1 c81
                refine r_iconst dX10_takesChain_143 ?_
                exact r_zreturn dX10_takesChain_144 rfl (Or.inr rfl) ⟨k69, _, rfl, (Or.inr rfl), h83⟩
              · have h84 := h80.2 c82
                refine r_aload_n dX10_takesChain_128 rfl ?_
                refine r_iload dX10_takesChain_129 rfl ?_
                refine r_if_ne (t := 138) dX10_takesChain_131 rfl hx5  (fun c85 => ?_) (fun c86 => ?_)
                · have h87 := h84.1 c85
                  refine r_iload dX10_takesChain_138 rfl ?_
                  refine r_putI dX10_takesChain_140 kf_RX10_96 (zlt hn rfl) sh_73 rfl (Or.inl rfl) ?_
                  have k88 := zok_o (i := 42) (x := x4) k69 sh_73 hx4
                  refine r_iconst dX10_takesChain_143 ?_
                  exact r_zreturn dX10_takesChain_144 rfl (Or.inr rfl) ⟨k88, _, rfl, (Or.inr rfl), h87⟩
                · have h89 := h84.2 c86
                  refine r_iload_n dX10_takesChain_134 rfl ?_
                  refine r_goto (t := 140) dX10_takesChain_135 rfl ?_
                  refine r_putI dX10_takesChain_140 kf_RX10_96 (zlt hn rfl) sh_73 rfl (Or.inl rfl) ?_
                  have k90 := zok_o (i := 42) (x := x3) k69 sh_73 hx3
                  refine r_iconst dX10_takesChain_143 ?_
                  exact r_zreturn dX10_takesChain_144 rfl (Or.inr rfl) ⟨k90, _, rfl, (Or.inr rfl), h89⟩
          · have h91 := h71.2 c73
            refine r_iconst dX10_takesChain_114 ?_
            exact r_zreturn dX10_takesChain_115 rfl (Or.inl rfl) ⟨k69, _, rfl, (Or.inl rfl), h91⟩
        · have h92 := h58.2 c60
          refine r_goto (t := 145) dX10_takesChain_93 rfl ?_
          refine r_iinc dX10_takesChain_145 rfl rfl rfl ?_
          refine r_goto (t := 59) dX10_takesChain_148 rfl ?_
          obtain ⟨h93, h94⟩ := h92
          exact r_mask [true, true, false, true, true, true, false] rfl (h94 hx1 hx3 hx4 h93 k56)
/-! StoneRoomModel.isSaved -/
theorem dX10_isSaved_0 : decode M_X10_isSaved.2.1 0 = .ok (.aload_n 0, 1) := by decide +kernel
theorem dX10_isSaved_1 : decode M_X10_isSaved.2.1 1 = .ok (.aload_n 0, 1) := by decide +kernel
theorem dX10_isSaved_2 : decode M_X10_isSaved.2.1 2 = .ok (.getfield 318, 3) := by decide +kernel
theorem dX10_isSaved_5 : decode M_X10_isSaved.2.1 5 = .ok (.invokevirtual 148, 3) := by decide +kernel
theorem dX10_isSaved_8 : decode M_X10_isSaved.2.1 8 = .ok (.istore_n 2, 1) := by decide +kernel
theorem dX10_isSaved_9 : decode M_X10_isSaved.2.1 9 = .ok (.iload_n 2, 1) := by decide +kernel
theorem dX10_isSaved_10 : decode M_X10_isSaved.2.1 10 = .ok (.iconst 2, 1) := by decide +kernel
theorem dX10_isSaved_11 : decode M_X10_isSaved.2.1 11 = .ok (.if_icmp .lt 5, 3) := by decide +kernel
theorem dX10_isSaved_14 : decode M_X10_isSaved.2.1 14 = .ok (.iconst 1, 1) := by decide +kernel
theorem dX10_isSaved_15 : decode M_X10_isSaved.2.1 15 = .ok (.ireturn, 1) := by decide +kernel
theorem dX10_isSaved_16 : decode M_X10_isSaved.2.1 16 = .ok (.iconst 0, 1) := by decide +kernel
theorem dX10_isSaved_17 : decode M_X10_isSaved.2.1 17 = .ok (.istore_n 3, 1) := by decide +kernel
theorem dX10_isSaved_18 : decode M_X10_isSaved.2.1 18 = .ok (.iload_n 3, 1) := by decide +kernel
theorem dX10_isSaved_19 : decode M_X10_isSaved.2.1 19 = .ok (.bipush 81, 2) := by decide +kernel
theorem dX10_isSaved_21 : decode M_X10_isSaved.2.1 21 = .ok (.if_icmp .ge 21, 3) := by decide +kernel
theorem dX10_isSaved_24 : decode M_X10_isSaved.2.1 24 = .ok (.aload_n 0, 1) := by decide +kernel
theorem dX10_isSaved_25 : decode M_X10_isSaved.2.1 25 = .ok (.getfield 99, 3) := by decide +kernel
theorem dX10_isSaved_28 : decode M_X10_isSaved.2.1 28 = .ok (.iload_n 3, 1) := by decide +kernel
theorem dX10_isSaved_29 : decode M_X10_isSaved.2.1 29 = .ok (.aload_n 0, 1) := by decide +kernel
theorem dX10_isSaved_30 : decode M_X10_isSaved.2.1 30 = .ok (.getfield 49, 3) := by decide +kernel
theorem dX10_isSaved_33 : decode M_X10_isSaved.2.1 33 = .ok (.iload_n 3, 1) := by decide +kernel
theorem dX10_isSaved_34 : decode M_X10_isSaved.2.1 34 = .ok (.baload, 1) := by decide +kernel
theorem dX10_isSaved_35 : decode M_X10_isSaved.2.1 35 = .ok (.bastore, 1) := by decide +kernel
theorem dX10_isSaved_36 : decode M_X10_isSaved.2.1 36 = .ok (.iinc 3 1, 3) := by decide +kernel
theorem dX10_isSaved_39 : decode M_X10_isSaved.2.1 39 = .ok (.goto (-21), 3) := by decide +kernel
theorem dX10_isSaved_42 : decode M_X10_isSaved.2.1 42 = .ok (.aload_n 0, 1) := by decide +kernel
theorem dX10_isSaved_43 : decode M_X10_isSaved.2.1 43 = .ok (.iconst (-1), 1) := by decide +kernel
theorem dX10_isSaved_44 : decode M_X10_isSaved.2.1 44 = .ok (.invokevirtual 321, 3) := by decide +kernel
theorem dX10_isSaved_47 : decode M_X10_isSaved.2.1 47 = .ok (.istore_n 3, 1) := by decide +kernel
theorem dX10_isSaved_48 : decode M_X10_isSaved.2.1 48 = .ok (.iconst 0, 1) := by decide +kernel
theorem dX10_isSaved_49 : decode M_X10_isSaved.2.1 49 = .ok (.istore 4, 2) := by decide +kernel
theorem dX10_isSaved_51 : decode M_X10_isSaved.2.1 51 = .ok (.iconst 0, 1) := by decide +kernel
theorem dX10_isSaved_52 : decode M_X10_isSaved.2.1 52 = .ok (.istore 5, 2) := by decide +kernel
theorem dX10_isSaved_54 : decode M_X10_isSaved.2.1 54 = .ok (.iload 5, 2) := by decide +kernel
theorem dX10_isSaved_56 : decode M_X10_isSaved.2.1 56 = .ok (.aload_n 0, 1) := by decide +kernel
theorem dX10_isSaved_57 : decode M_X10_isSaved.2.1 57 = .ok (.getfield 139, 3) := by decide +kernel
theorem dX10_isSaved_60 : decode M_X10_isSaved.2.1 60 = .ok (.aload_n 0, 1) := by decide +kernel
theorem dX10_isSaved_61 : decode M_X10_isSaved.2.1 61 = .ok (.getfield 139, 3) := by decide +kernel
theorem dX10_isSaved_64 : decode M_X10_isSaved.2.1 64 = .ok (.imul, 1) := by decide +kernel
theorem dX10_isSaved_65 : decode M_X10_isSaved.2.1 65 = .ok (.if_icmp .ge 69, 3) := by decide +kernel
theorem dX10_isSaved_68 : decode M_X10_isSaved.2.1 68 = .ok (.aload_n 0, 1) := by decide +kernel
theorem dX10_isSaved_69 : decode M_X10_isSaved.2.1 69 = .ok (.getfield 305, 3) := by decide +kernel
theorem dX10_isSaved_72 : decode M_X10_isSaved.2.1 72 = .ok (.ifCond .ne 62, 3) := by decide +kernel
theorem dX10_isSaved_75 : decode M_X10_isSaved.2.1 75 = .ok (.aload_n 0, 1) := by decide +kernel
theorem dX10_isSaved_76 : decode M_X10_isSaved.2.1 76 = .ok (.getfield 46, 3) := by decide +kernel
theorem dX10_isSaved_79 : decode M_X10_isSaved.2.1 79 = .ok (.iload 5, 2) := by decide +kernel
theorem dX10_isSaved_81 : decode M_X10_isSaved.2.1 81 = .ok (.baload, 1) := by decide +kernel
theorem dX10_isSaved_82 : decode M_X10_isSaved.2.1 82 = .ok (.ifCond .ne 46, 3) := by decide +kernel
theorem dX10_isSaved_85 : decode M_X10_isSaved.2.1 85 = .ok (.aload_n 0, 1) := by decide +kernel
theorem dX10_isSaved_86 : decode M_X10_isSaved.2.1 86 = .ok (.iload 5, 2) := by decide +kernel
theorem dX10_isSaved_88 : decode M_X10_isSaved.2.1 88 = .ok (.iload_n 1, 1) := by decide +kernel
theorem dX10_isSaved_89 : decode M_X10_isSaved.2.1 89 = .ok (.invokevirtual 330, 3) := by decide +kernel
theorem dX10_isSaved_92 : decode M_X10_isSaved.2.1 92 = .ok (.ifCond .ne 6, 3) := by decide +kernel
theorem dX10_isSaved_95 : decode M_X10_isSaved.2.1 95 = .ok (.goto 33, 3) := by decide +kernel
theorem dX10_isSaved_98 : decode M_X10_isSaved.2.1 98 = .ok (.iload 4, 2) := by decide +kernel
theorem dX10_isSaved_100 : decode M_X10_isSaved.2.1 100 = .ok (.ifCond .ne 9, 3) := by decide +kernel
theorem dX10_isSaved_103 : decode M_X10_isSaved.2.1 103 = .ok (.iload 5, 2) := by decide +kernel
theorem dX10_isSaved_105 : decode M_X10_isSaved.2.1 105 = .ok (.iload_n 3, 1) := by decide +kernel
theorem dX10_isSaved_106 : decode M_X10_isSaved.2.1 106 = .ok (.if_icmp .ne 7, 3) := by decide +kernel
theorem dX10_isSaved_109 : decode M_X10_isSaved.2.1 109 = .ok (.iconst 1, 1) := by decide +kernel
theorem dX10_isSaved_110 : decode M_X10_isSaved.2.1 110 = .ok (.goto 4, 3) := by decide +kernel
theorem dX10_isSaved_113 : decode M_X10_isSaved.2.1 113 = .ok (.iconst 0, 1) := by decide +kernel
theorem dX10_isSaved_114 : decode M_X10_isSaved.2.1 114 = .ok (.istore 4, 2) := by decide +kernel
theorem dX10_isSaved_116 : decode M_X10_isSaved.2.1 116 = .ok (.aload_n 0, 1) := by decide +kernel
theorem dX10_isSaved_117 : decode M_X10_isSaved.2.1 117 = .ok (.iload 5, 2) := by decide +kernel
theorem dX10_isSaved_119 : decode M_X10_isSaved.2.1 119 = .ok (.iload_n 1, 1) := by decide +kernel
theorem dX10_isSaved_120 : decode M_X10_isSaved.2.1 120 = .ok (.invokevirtual 333, 3) := by decide +kernel
theorem dX10_isSaved_123 : decode M_X10_isSaved.2.1 123 = .ok (.ifCond .eq 5, 3) := by decide +kernel
theorem dX10_isSaved_126 : decode M_X10_isSaved.2.1 126 = .ok (.iconst 1, 1) := by decide +kernel
theorem dX10_isSaved_127 : decode M_X10_isSaved.2.1 127 = .ok (.ireturn, 1) := by decide +kernel
theorem dX10_isSaved_128 : decode M_X10_isSaved.2.1 128 = .ok (.iinc 5 1, 3) := by decide +kernel
theorem dX10_isSaved_131 : decode M_X10_isSaved.2.1 131 = .ok (.goto (-77), 3) := by decide +kernel
theorem dX10_isSaved_134 : decode M_X10_isSaved.2.1 134 = .ok (.aload_n 0, 1) := by decide +kernel
theorem dX10_isSaved_135 : decode M_X10_isSaved.2.1 135 = .ok (.getfield 305, 3) := by decide +kernel
theorem dX10_isSaved_138 : decode M_X10_isSaved.2.1 138 = .ok (.ifCond .ne 25, 3) := by decide +kernel
theorem dX10_isSaved_141 : decode M_X10_isSaved.2.1 141 = .ok (.iload 4, 2) := by decide +kernel
theorem dX10_isSaved_143 : decode M_X10_isSaved.2.1 143 = .ok (.ifCond .ne 20, 3) := by decide +kernel
theorem dX10_isSaved_146 : decode M_X10_isSaved.2.1 146 = .ok (.iload_n 3, 1) := by decide +kernel
theorem dX10_isSaved_147 : decode M_X10_isSaved.2.1 147 = .ok (.ifCond .lt 16, 3) := by decide +kernel
theorem dX10_isSaved_150 : decode M_X10_isSaved.2.1 150 = .ok (.aload_n 0, 1) := by decide +kernel
theorem dX10_isSaved_151 : decode M_X10_isSaved.2.1 151 = .ok (.iload_n 3, 1) := by decide +kernel
theorem dX10_isSaved_152 : decode M_X10_isSaved.2.1 152 = .ok (.iload_n 1, 1) := by decide +kernel
theorem dX10_isSaved_153 : decode M_X10_isSaved.2.1 153 = .ok (.invokevirtual 333, 3) := by decide +kernel
theorem dX10_isSaved_156 : decode M_X10_isSaved.2.1 156 = .ok (.ifCond .eq 7, 3) := by decide +kernel
theorem dX10_isSaved_159 : decode M_X10_isSaved.2.1 159 = .ok (.iconst 1, 1) := by decide +kernel
theorem dX10_isSaved_160 : decode M_X10_isSaved.2.1 160 = .ok (.goto 4, 3) := by decide +kernel
theorem dX10_isSaved_163 : decode M_X10_isSaved.2.1 163 = .ok (.iconst 0, 1) := by decide +kernel
theorem dX10_isSaved_164 : decode M_X10_isSaved.2.1 164 = .ok (.ireturn, 1) := by decide +kernel
def L_X10_isSaved_18 (X : ZX) (d n : Nat) (P : Option Value → ZSto → Prop) (x1 : Int) (x3 : Int) (σ : ZSto) : Prop := R32 x1 → R32 x3 → ZOk n σ → Zn X M_X10_isSaved d n P 18 [some (.ref (zB X + 73)), some (iV x1), none, some (iV x3), none, none] [] σ
def L_X10_isSaved_54 (X : ZX) (d n : Nat) (P : Option Value → ZSto → Prop) (x1 : Int) (x3 : Int) (x4 : Int) (x5 : Int) (σ : ZSto) : Prop := R32 x1 → R32 x3 → R32 x4 → R32 x5 → ZOk n σ → Zn X M_X10_isSaved d n P 54 [some (.ref (zB X + 73)), some (iV x1), none, some (iV x3), some (iV x4), some (iV x5)] [] σ
theorem w_X10_isSaved {X : ZX} {d n : Nat} {P : Int → ZSto → Prop} {x1 : Int} {σ : ZSto} (hn : 104 ≤ n)  (hx1 : R32 x1)
    (h : ZkI X M_X10_flood d n [.ref (zB X + 73), iV (gI σ 73 44)] σ (fun v1 σ2 => (v1 < 2 → L_X10_isSaved_18 X d n (zpZ P) x1 0 σ2) ∧ (¬ (v1 < 2) → P 1 σ2))) :
    ZkZ X M_X10_isSaved (d + 1) n [.ref (zB X + 73), iV x1] σ P := by
  refine zk_of (ls := [some (.ref (zB X + 73)), some (iV x1), none, none, none, none]) pl_RX10 (Nat.le_of_ble_eq_true rfl) rfl (fun k0 => ?_)
  unfold Zn
  refine r_aload_n dX10_isSaved_0 rfl ?_
  refine r_aload_n dX10_isSaved_1 rfl ?_
  refine r_getI dX10_isSaved_2 kf_RX10_318 (zlt hn rfl) sh_73 (Or.inl rfl) rfl ?_
  refine n_callV (N := M_X10_flood) (As := [iV (gI σ 73 44)]) (st := []) dX10_isSaved_5 mk_X10_flood km_RX10_148 kd_X10_flood rfl (zlt hn rfl) sh_73 (q := (RX10, TX10, 52)) rfl rfl (zFits_rm d n n n (Nat.le_refl n)) (Nat.le_of_ble_eq_true rfl) rfl k0 h ?_
  rintro _ σ2 k3 ⟨v1, rfl, h4, h5⟩
  change Zm _ _ _ _ _ _ 8 _ [iV v1] _
  refine r_istore_n dX10_isSaved_8 rfl rfl ?_
  refine r_iload_n dX10_isSaved_9 rfl ?_
  refine r_iconst dX10_isSaved_10 ?_
  refine r_icmp_lt (t := 16) dX10_isSaved_11 rfl h4 (r32c rfl) (fun c6 => ?_) (fun c7 => ?_)
  · have h8 := h5.1 c6
    refine r_iconst dX10_isSaved_16 ?_
    refine r_istore_n dX10_isSaved_17 rfl rfl ?_
    exact r_mask [true, true, false, true, false, false] rfl (h8 hx1 (r32c rfl) k3)
  · have h9 := h5.2 c7
    refine r_iconst dX10_isSaved_14 ?_
    exact r_zreturn dX10_isSaved_15 rfl (Or.inr rfl) ⟨k3, _, rfl, (Or.inr rfl), h9⟩
theorem b_X10_isSaved_18 {X : ZX} {d n : Nat} {P : Int → ZSto → Prop} {x1 : Int} {x3 : Int} {σ : ZSto} (hn : 104 ≤ n) 
    (h : (81 ≤ x3 → ZkI X M_X10_freeBehind d n [.ref (zB X + 73), iV ((-1))] σ (fun v4 σ5 => L_X10_isSaved_54 X d n (zpZ P) x1 v4 0 0 σ5)) ∧ (¬ (81 ≤ x3) → (0 ≤ x3 ∧ x3 < 81) ∧ R32 (x3 + 1) ∧ L_X10_isSaved_18 X d n (zpZ P) x1 (x3 + 1) (sI σ 98 x3.toNat (gI σ 85 x3.toNat)))) :
    L_X10_isSaved_18 X d n (zpZ P) x1 x3 σ := by
  intro hx1 hx3 k0
  unfold Zn
  refine r_iload_n dX10_isSaved_18 rfl ?_
  refine r_bipush dX10_isSaved_19 rfl ?_
  refine r_icmp_ge (t := 42) dX10_isSaved_21 rfl hx3 (r32c rfl) (fun c1 => ?_) (fun c2 => ?_)
  · have h3 := h.1 c1
    refine r_aload_n dX10_isSaved_42 rfl ?_
    refine r_iconst dX10_isSaved_43 ?_
    refine n_callV (N := M_X10_freeBehind) (As := [iV ((-1))]) (st := []) dX10_isSaved_44 mk_X10_freeBehind km_RX10_321 kd_X10_freeBehind rfl (zlt hn rfl) sh_73 (q := (RX10, TX10, 52)) rfl rfl (zFits_rm d n n n (Nat.le_refl n)) (Nat.le_of_ble_eq_true rfl) rfl k0 h3 ?_
    rintro _ σ5 k6 ⟨v4, rfl, h7, h8⟩
    change Zm _ _ _ _ _ _ 47 _ [iV v4] _
    refine r_istore_n dX10_isSaved_47 rfl rfl ?_
    refine r_iconst dX10_isSaved_48 ?_
    refine r_istore dX10_isSaved_49 rfl rfl ?_
    refine r_iconst dX10_isSaved_51 ?_
    refine r_istore dX10_isSaved_52 rfl rfl ?_
    exact r_mask [true, true, false, true, true, true] rfl (h8 hx1 h7 (r32c rfl) (r32c rfl) k6)
  · have h9 := h.2 c2
    refine r_aload_n dX10_isSaved_24 rfl ?_
    refine r_getP (a := 98) dX10_isSaved_25 kf_RX10_99 (zlt hn rfl) sh_73 rfl (k0.1 _ _ _ (zlt hn rfl) p_73_45) ?_
    refine r_iload_n dX10_isSaved_28 rfl ?_
    refine r_aload_n dX10_isSaved_29 rfl ?_
    refine r_getP (a := 85) dX10_isSaved_30 kf_RX10_49 (zlt hn rfl) sh_73 rfl (k0.1 _ _ _ (zlt hn rfl) p_73_15) ?_
    refine r_iload_n dX10_isSaved_33 rfl ?_
    obtain ⟨h10, h11⟩ := h9
    refine r_zaloadE dX10_isSaved_34 (zlt hn rfl) sh_85 h10.1 h10.2 rfl ?_
    refine r_zastore dX10_isSaved_35 (zlt hn rfl) sh_98 h10.1 h10.2 (zok_bz k0 sh_85) ?_
    have k12 := zok_z (i := x3.toNat) (x := gI σ 85 x3.toNat) k0 sh_98 (zok_bz k0 sh_85)
    refine r_iinc dX10_isSaved_36 rfl rfl rfl ?_
    refine r_goto (t := 18) dX10_isSaved_39 rfl ?_
    obtain ⟨h13, h14⟩ := h11
    exact r_mask [true, true, false, true, false, false] rfl (h14 hx1 h13 k12)
theorem b_X10_isSaved_54 {X : ZX} {d n : Nat} {P : Int → ZSto → Prop} {x1 : Int} {x3 : Int} {x4 : Int} {x5 : Int} {σ : ZSto} (hn : 104 ≤ n) 
    (h : R32 ((gI σ 73 13) * (gI σ 73 13)) ∧ ((gI σ 73 13) * (gI σ 73 13) ≤ x5 → (¬ gI σ 73 43 = 0 → P 0 σ) ∧ (gI σ 73 43 = 0 → (¬ x4 = 0 → P 0 σ) ∧ (x4 = 0 → (x3 < 0 → P 0 σ) ∧ (¬ (x3 < 0) → ZkZ X M_X10_saves d n [.ref (zB X + 73), iV x3, iV x1] σ (fun v18 σ19 => (v18 = 0 → P 0 σ19) ∧ (¬ (v18 = 0) → P 1 σ19)))))) ∧ (¬ ((gI σ 73 13) * (gI σ 73 13) ≤ x5) → (¬ gI σ 73 43 = 0 → (¬ gI σ 73 43 = 0 → P 0 σ) ∧ (gI σ 73 43 = 0 → (¬ x4 = 0 → P 0 σ) ∧ (x4 = 0 → (x3 < 0 → P 0 σ) ∧ (¬ (x3 < 0) → ZkZ X M_X10_saves d n [.ref (zB X + 73), iV x3, iV x1] σ (fun v43 σ44 => (v43 = 0 → P 0 σ44) ∧ (¬ (v43 = 0) → P 1 σ44)))))) ∧ (gI σ 73 43 = 0 → (0 ≤ x5 ∧ x5 < 81) ∧ (¬ gI σ 84 x5.toNat = 0 → R32 (x5 + 1) ∧ L_X10_isSaved_54 X d n (zpZ P) x1 x3 x4 (x5 + 1) σ) ∧ (gI σ 84 x5.toNat = 0 → ZkZ X M_X10_takesBeside d n [.ref (zB X + 73), iV x5, iV x1] σ (fun v61 σ62 => (¬ v61 = 0 → (¬ x4 = 0 → ZkZ X M_X10_saves d n [.ref (zB X + 73), iV x5, iV x1] σ62 (fun v72 σ73 => (v72 = 0 → R32 (x5 + 1) ∧ L_X10_isSaved_54 X d n (zpZ P) x1 x3 1 (x5 + 1) σ73) ∧ (¬ (v72 = 0) → P 1 σ73))) ∧ (x4 = 0 → (¬ x5 = x3 → ZkZ X M_X10_saves d n [.ref (zB X + 73), iV x5, iV x1] σ62 (fun v87 σ88 => (v87 = 0 → R32 (x5 + 1) ∧ L_X10_isSaved_54 X d n (zpZ P) x1 x3 0 (x5 + 1) σ88) ∧ (¬ (v87 = 0) → P 1 σ88))) ∧ (x5 = x3 → ZkZ X M_X10_saves d n [.ref (zB X + 73), iV x5, iV x1] σ62 (fun v99 σ100 => (v99 = 0 → R32 (x5 + 1) ∧ L_X10_isSaved_54 X d n (zpZ P) x1 x3 1 (x5 + 1) σ100) ∧ (¬ (v99 = 0) → P 1 σ100))))) ∧ (v61 = 0 → R32 (x5 + 1) ∧ L_X10_isSaved_54 X d n (zpZ P) x1 x3 x4 (x5 + 1) σ62)))))) :
    L_X10_isSaved_54 X d n (zpZ P) x1 x3 x4 x5 σ := by
  intro hx1 hx3 hx4 hx5 k0
  unfold Zn
  refine r_iload dX10_isSaved_54 rfl ?_
  refine r_aload_n dX10_isSaved_56 rfl ?_
  refine r_getI dX10_isSaved_57 kf_RX10_139 (zlt hn rfl) sh_73 (Or.inl rfl) rfl ?_
  refine r_aload_n dX10_isSaved_60 rfl ?_
  refine r_getI dX10_isSaved_61 kf_RX10_139 (zlt hn rfl) sh_73 (Or.inl rfl) rfl ?_
  refine r_imul dX10_isSaved_64 ?_
  obtain ⟨h1, h2⟩ := h
  refine r_icmp_ge (t := 134) dX10_isSaved_65 rfl hx5 h1 (fun c3 => ?_) (fun c4 => ?_)
  · have h5 := h2.1 c3
    refine r_aload_n dX10_isSaved_134 rfl ?_
    refine r_getI dX10_isSaved_135 kf_RX10_305 (zlt hn rfl) sh_73 (Or.inr rfl) rfl ?_
    refine r_if_ne (t := 163) dX10_isSaved_138 rfl (k0.2.1 _ _)  (fun c6 => ?_) (fun c7 => ?_)
    · have h8 := h5.1 c6
      refine r_iconst dX10_isSaved_163 ?_
      exact r_zreturn dX10_isSaved_164 rfl (Or.inl rfl) ⟨k0, _, rfl, (Or.inl rfl), h8⟩
    · have h9 := h5.2 c7
      refine r_iload dX10_isSaved_141 rfl ?_
      refine r_if_ne (t := 163) dX10_isSaved_143 rfl hx4  (fun c10 => ?_) (fun c11 => ?_)
      · have h12 := h9.1 c10
        refine r_iconst dX10_isSaved_163 ?_
        exact r_zreturn dX10_isSaved_164 rfl (Or.inl rfl) ⟨k0, _, rfl, (Or.inl rfl), h12⟩
      · have h13 := h9.2 c11
        refine r_iload_n dX10_isSaved_146 rfl ?_
        refine r_if_lt (t := 163) dX10_isSaved_147 rfl hx3  (fun c14 => ?_) (fun c15 => ?_)
        · have h16 := h13.1 c14
          refine r_iconst dX10_isSaved_163 ?_
          exact r_zreturn dX10_isSaved_164 rfl (Or.inl rfl) ⟨k0, _, rfl, (Or.inl rfl), h16⟩
        · have h17 := h13.2 c15
          refine r_aload_n dX10_isSaved_150 rfl ?_
          refine r_iload_n dX10_isSaved_151 rfl ?_
          refine r_iload_n dX10_isSaved_152 rfl ?_
          refine n_callV (N := M_X10_saves) (As := [iV x3, iV x1]) (st := []) dX10_isSaved_153 mk_X10_saves km_RX10_333 kd_X10_saves rfl (zlt hn rfl) sh_73 (q := (RX10, TX10, 52)) rfl rfl (zFits_rm d n n n (Nat.le_refl n)) (Nat.le_of_ble_eq_true rfl) rfl k0 h17 ?_
          rintro _ σ19 k20 ⟨v18, rfl, h21, h22⟩
          change Zm _ _ _ _ _ _ 156 _ [iV v18] _
          refine r_if_eq (t := 163) dX10_isSaved_156 rfl (r32_z h21)  (fun c23 => ?_) (fun c24 => ?_)
          · have h25 := h22.1 c23
            refine r_iconst dX10_isSaved_163 ?_
            exact r_zreturn dX10_isSaved_164 rfl (Or.inl rfl) ⟨k20, _, rfl, (Or.inl rfl), h25⟩
          · have h26 := h22.2 c24
            refine r_iconst dX10_isSaved_159 ?_
            refine r_goto (t := 164) dX10_isSaved_160 rfl ?_
            exact r_zreturn dX10_isSaved_164 rfl (Or.inr rfl) ⟨k20, _, rfl, (Or.inr rfl), h26⟩
  · have h27 := h2.2 c4
    refine r_aload_n dX10_isSaved_68 rfl ?_
    refine r_getI dX10_isSaved_69 kf_RX10_305 (zlt hn rfl) sh_73 (Or.inr rfl) rfl ?_
    refine r_if_ne (t := 134) dX10_isSaved_72 rfl (k0.2.1 _ _)  (fun c28 => ?_) (fun c29 => ?_)
    · have h30 := h27.1 c28
      refine r_aload_n dX10_isSaved_134 rfl ?_
      refine r_getI dX10_isSaved_135 kf_RX10_305 (zlt hn rfl) sh_73 (Or.inr rfl) rfl ?_
      refine r_if_ne (t := 163) dX10_isSaved_138 rfl (k0.2.1 _ _)  (fun c31 => ?_) (fun c32 => ?_)
      · have h33 := h30.1 c31
        refine r_iconst dX10_isSaved_163 ?_
        exact r_zreturn dX10_isSaved_164 rfl (Or.inl rfl) ⟨k0, _, rfl, (Or.inl rfl), h33⟩
      · have h34 := h30.2 c32
        refine r_iload dX10_isSaved_141 rfl ?_
        refine r_if_ne (t := 163) dX10_isSaved_143 rfl hx4  (fun c35 => ?_) (fun c36 => ?_)
        · have h37 := h34.1 c35
          refine r_iconst dX10_isSaved_163 ?_
          exact r_zreturn dX10_isSaved_164 rfl (Or.inl rfl) ⟨k0, _, rfl, (Or.inl rfl), h37⟩
        · have h38 := h34.2 c36
          refine r_iload_n dX10_isSaved_146 rfl ?_
          refine r_if_lt (t := 163) dX10_isSaved_147 rfl hx3  (fun c39 => ?_) (fun c40 => ?_)
          · have h41 := h38.1 c39
            refine r_iconst dX10_isSaved_163 ?_
            exact r_zreturn dX10_isSaved_164 rfl (Or.inl rfl) ⟨k0, _, rfl, (Or.inl rfl), h41⟩
          · have h42 := h38.2 c40
            refine r_aload_n dX10_isSaved_150 rfl ?_
            refine r_iload_n dX10_isSaved_151 rfl ?_
            refine r_iload_n dX10_isSaved_152 rfl ?_
            refine n_callV (N := M_X10_saves) (As := [iV x3, iV x1]) (st := []) dX10_isSaved_153 mk_X10_saves km_RX10_333 kd_X10_saves rfl (zlt hn rfl) sh_73 (q := (RX10, TX10, 52)) rfl rfl (zFits_rm d n n n (Nat.le_refl n)) (Nat.le_of_ble_eq_true rfl) rfl k0 h42 ?_
            rintro _ σ44 k45 ⟨v43, rfl, h46, h47⟩
            change Zm _ _ _ _ _ _ 156 _ [iV v43] _
            refine r_if_eq (t := 163) dX10_isSaved_156 rfl (r32_z h46)  (fun c48 => ?_) (fun c49 => ?_)
            · have h50 := h47.1 c48
              refine r_iconst dX10_isSaved_163 ?_
              exact r_zreturn dX10_isSaved_164 rfl (Or.inl rfl) ⟨k45, _, rfl, (Or.inl rfl), h50⟩
            · have h51 := h47.2 c49
              refine r_iconst dX10_isSaved_159 ?_
              refine r_goto (t := 164) dX10_isSaved_160 rfl ?_
              exact r_zreturn dX10_isSaved_164 rfl (Or.inr rfl) ⟨k45, _, rfl, (Or.inr rfl), h51⟩
    · have h52 := h27.2 c29
      refine r_aload_n dX10_isSaved_75 rfl ?_
      refine r_getP (a := 84) dX10_isSaved_76 kf_RX10_46 (zlt hn rfl) sh_73 rfl (k0.1 _ _ _ (zlt hn rfl) p_73_14) ?_
      refine r_iload dX10_isSaved_79 rfl ?_
      obtain ⟨h53, h54⟩ := h52
      refine r_baloadE dX10_isSaved_81 (zlt hn rfl) sh_84 h53.1 h53.2 rfl ?_
      refine r_if_ne (t := 128) dX10_isSaved_82 rfl (k0.2.1 _ _)  (fun c55 => ?_) (fun c56 => ?_)
      · have h57 := h54.1 c55
        refine r_iinc dX10_isSaved_128 rfl rfl rfl ?_
        refine r_goto (t := 54) dX10_isSaved_131 rfl ?_
        obtain ⟨h58, h59⟩ := h57
        exact r_mask [true, true, false, true, true, true] rfl (h59 hx1 hx3 hx4 h58 k0)
      · have h60 := h54.2 c56
        refine r_aload_n dX10_isSaved_85 rfl ?_
        refine r_iload dX10_isSaved_86 rfl ?_
        refine r_iload_n dX10_isSaved_88 rfl ?_
        refine n_callV (N := M_X10_takesBeside) (As := [iV x5, iV x1]) (st := []) dX10_isSaved_89 mk_X10_takesBeside km_RX10_330 kd_X10_takesBeside rfl (zlt hn rfl) sh_73 (q := (RX10, TX10, 52)) rfl rfl (zFits_rm d n n n (Nat.le_refl n)) (Nat.le_of_ble_eq_true rfl) rfl k0 h60 ?_
        rintro _ σ62 k63 ⟨v61, rfl, h64, h65⟩
        change Zm _ _ _ _ _ _ 92 _ [iV v61] _
        refine r_if_ne (t := 98) dX10_isSaved_92 rfl (r32_z h64)  (fun c66 => ?_) (fun c67 => ?_)
        · have h68 := h65.1 c66
          refine r_iload dX10_isSaved_98 rfl ?_
          refine r_if_ne (t := 109) dX10_isSaved_100 rfl hx4  (fun c69 => ?_) (fun c70 => ?_)
          · have h71 := h68.1 c69
            refine r_iconst dX10_isSaved_109 ?_
            refine r_goto (t := 114) dX10_isSaved_110 rfl ?_
            refine r_istore dX10_isSaved_114 rfl rfl ?_
            refine r_aload_n dX10_isSaved_116 rfl ?_
            refine r_iload dX10_isSaved_117 rfl ?_
            refine r_iload_n dX10_isSaved_119 rfl ?_
            refine n_callV (N := M_X10_saves) (As := [iV x5, iV x1]) (st := []) dX10_isSaved_120 mk_X10_saves km_RX10_333 kd_X10_saves rfl (zlt hn rfl) sh_73 (q := (RX10, TX10, 52)) rfl rfl (zFits_rm d n n n (Nat.le_refl n)) (Nat.le_of_ble_eq_true rfl) rfl k63 h71 ?_
            rintro _ σ73 k74 ⟨v72, rfl, h75, h76⟩
            change Zm _ _ _ _ _ _ 123 _ [iV v72] _
            refine r_if_eq (t := 128) dX10_isSaved_123 rfl (r32_z h75)  (fun c77 => ?_) (fun c78 => ?_)
            · have h79 := h76.1 c77
              refine r_iinc dX10_isSaved_128 rfl rfl rfl ?_
              refine r_goto (t := 54) dX10_isSaved_131 rfl ?_
              obtain ⟨h80, h81⟩ := h79
              exact r_mask [true, true, false, true, true, true] rfl (h81 hx1 hx3 (r32c rfl) h80 k74)
            · have h82 := h76.2 c78
              refine r_iconst dX10_isSaved_126 ?_
              exact r_zreturn dX10_isSaved_127 rfl (Or.inr rfl) ⟨k74, _, rfl, (Or.inr rfl), h82⟩
          · have h83 := h68.2 c70
            refine r_iload dX10_isSaved_103 rfl ?_
            refine r_iload_n dX10_isSaved_105 rfl ?_
            refine r_icmp_ne (t := 113) dX10_isSaved_106 rfl hx5 hx3 (fun c84 => ?_) (fun c85 => ?_)
            · have h86 := h83.1 c84
              refine r_iconst dX10_isSaved_113 ?_
              refine r_istore dX10_isSaved_114 rfl rfl ?_
              refine r_aload_n dX10_isSaved_116 rfl ?_
              refine r_iload dX10_isSaved_117 rfl ?_
              refine r_iload_n dX10_isSaved_119 rfl ?_
              refine n_callV (N := M_X10_saves) (As := [iV x5, iV x1]) (st := []) dX10_isSaved_120 mk_X10_saves km_RX10_333 kd_X10_saves rfl (zlt hn rfl) sh_73 (q := (RX10, TX10, 52)) rfl rfl (zFits_rm d n n n (Nat.le_refl n)) (Nat.le_of_ble_eq_true rfl) rfl k63 h86 ?_
              rintro _ σ88 k89 ⟨v87, rfl, h90, h91⟩
              change Zm _ _ _ _ _ _ 123 _ [iV v87] _
              refine r_if_eq (t := 128) dX10_isSaved_123 rfl (r32_z h90)  (fun c92 => ?_) (fun c93 => ?_)
              · have h94 := h91.1 c92
                refine r_iinc dX10_isSaved_128 rfl rfl rfl ?_
                refine r_goto (t := 54) dX10_isSaved_131 rfl ?_
                obtain ⟨h95, h96⟩ := h94
                exact r_mask [true, true, false, true, true, true] rfl (h96 hx1 hx3 (r32c rfl) h95 k89)
              · have h97 := h91.2 c93
                refine r_iconst dX10_isSaved_126 ?_
                exact r_zreturn dX10_isSaved_127 rfl (Or.inr rfl) ⟨k89, _, rfl, (Or.inr rfl), h97⟩
            · have h98 := h83.2 c85
              refine r_iconst dX10_isSaved_109 ?_
              refine r_goto (t := 114) dX10_isSaved_110 rfl ?_
              refine r_istore dX10_isSaved_114 rfl rfl ?_
              refine r_aload_n dX10_isSaved_116 rfl ?_
              refine r_iload dX10_isSaved_117 rfl ?_
              refine r_iload_n dX10_isSaved_119 rfl ?_
              refine n_callV (N := M_X10_saves) (As := [iV x5, iV x1]) (st := []) dX10_isSaved_120 mk_X10_saves km_RX10_333 kd_X10_saves rfl (zlt hn rfl) sh_73 (q := (RX10, TX10, 52)) rfl rfl (zFits_rm d n n n (Nat.le_refl n)) (Nat.le_of_ble_eq_true rfl) rfl k63 h98 ?_
              rintro _ σ100 k101 ⟨v99, rfl, h102, h103⟩
              change Zm _ _ _ _ _ _ 123 _ [iV v99] _
              refine r_if_eq (t := 128) dX10_isSaved_123 rfl (r32_z h102)  (fun c104 => ?_) (fun c105 => ?_)
              · have h106 := h103.1 c104
                refine r_iinc dX10_isSaved_128 rfl rfl rfl ?_
                refine r_goto (t := 54) dX10_isSaved_131 rfl ?_
                obtain ⟨h107, h108⟩ := h106
                exact r_mask [true, true, false, true, true, true] rfl (h108 hx1 hx3 (r32c rfl) h107 k101)
              · have h109 := h103.2 c105
                refine r_iconst dX10_isSaved_126 ?_
                exact r_zreturn dX10_isSaved_127 rfl (Or.inr rfl) ⟨k101, _, rfl, (Or.inr rfl), h109⟩
        · have h110 := h65.2 c67
          refine r_goto (t := 128) dX10_isSaved_95 rfl ?_
          refine r_iinc dX10_isSaved_128 rfl rfl rfl ?_
          refine r_goto (t := 54) dX10_isSaved_131 rfl ?_
          obtain ⟨h111, h112⟩ := h110
          exact r_mask [true, true, false, true, true, true] rfl (h112 hx1 hx3 hx4 h111 k63)
/-! StoneRoomModel.takesBeside -/
theorem dX10_takesBeside_0 : decode M_X10_takesBeside.2.1 0 = .ok (.iconst 0, 1) := by decide +kernel
theorem dX10_takesBeside_1 : decode M_X10_takesBeside.2.1 1 = .ok (.istore_n 3, 1) := by decide +kernel
theorem dX10_takesBeside_2 : decode M_X10_takesBeside.2.1 2 = .ok (.iload_n 3, 1) := by decide +kernel
theorem dX10_takesBeside_3 : decode M_X10_takesBeside.2.1 3 = .ok (.iconst 4, 1) := by decide +kernel
theorem dX10_takesBeside_4 : decode M_X10_takesBeside.2.1 4 = .ok (.if_icmp .ge 154, 3) := by decide +kernel
theorem dX10_takesBeside_7 : decode M_X10_takesBeside.2.1 7 = .ok (.aload_n 0, 1) := by decide +kernel
theorem dX10_takesBeside_8 : decode M_X10_takesBeside.2.1 8 = .ok (.iload_n 1, 1) := by decide +kernel
theorem dX10_takesBeside_9 : decode M_X10_takesBeside.2.1 9 = .ok (.iload_n 3, 1) := by decide +kernel
theorem dX10_takesBeside_10 : decode M_X10_takesBeside.2.1 10 = .ok (.invokevirtual 142, 3) := by decide +kernel
theorem dX10_takesBeside_13 : decode M_X10_takesBeside.2.1 13 = .ok (.istore 4, 2) := by decide +kernel
theorem dX10_takesBeside_15 : decode M_X10_takesBeside.2.1 15 = .ok (.iload 4, 2) := by decide +kernel
theorem dX10_takesBeside_17 : decode M_X10_takesBeside.2.1 17 = .ok (.ifCond .lt 135, 3) := by decide +kernel
theorem dX10_takesBeside_20 : decode M_X10_takesBeside.2.1 20 = .ok (.aload_n 0, 1) := by decide +kernel
theorem dX10_takesBeside_21 : decode M_X10_takesBeside.2.1 21 = .ok (.getfield 46, 3) := by decide +kernel
theorem dX10_takesBeside_24 : decode M_X10_takesBeside.2.1 24 = .ok (.iload 4, 2) := by decide +kernel
theorem dX10_takesBeside_26 : decode M_X10_takesBeside.2.1 26 = .ok (.baload, 1) := by decide +kernel
theorem dX10_takesBeside_27 : decode M_X10_takesBeside.2.1 27 = .ok (.iconst 3, 1) := by decide +kernel
theorem dX10_takesBeside_28 : decode M_X10_takesBeside.2.1 28 = .ok (.iload_n 2, 1) := by decide +kernel
theorem dX10_takesBeside_29 : decode M_X10_takesBeside.2.1 29 = .ok (.isub, 1) := by decide +kernel
theorem dX10_takesBeside_30 : decode M_X10_takesBeside.2.1 30 = .ok (.if_icmp .eq 6, 3) := by decide +kernel
theorem dX10_takesBeside_33 : decode M_X10_takesBeside.2.1 33 = .ok (.goto 119, 3) := by decide +kernel
theorem dX10_takesBeside_36 : decode M_X10_takesBeside.2.1 36 = .ok (.aload_n 0, 1) := by decide +kernel
theorem dX10_takesBeside_37 : decode M_X10_takesBeside.2.1 37 = .ok (.iload 4, 2) := by decide +kernel
theorem dX10_takesBeside_39 : decode M_X10_takesBeside.2.1 39 = .ok (.invokevirtual 148, 3) := by decide +kernel
theorem dX10_takesBeside_42 : decode M_X10_takesBeside.2.1 42 = .ok (.iconst 1, 1) := by decide +kernel
theorem dX10_takesBeside_43 : decode M_X10_takesBeside.2.1 43 = .ok (.if_icmp .eq 6, 3) := by decide +kernel
theorem dX10_takesBeside_46 : decode M_X10_takesBeside.2.1 46 = .ok (.goto 106, 3) := by decide +kernel
theorem dX10_takesBeside_49 : decode M_X10_takesBeside.2.1 49 = .ok (.iconst 0, 1) := by decide +kernel
theorem dX10_takesBeside_50 : decode M_X10_takesBeside.2.1 50 = .ok (.istore 5, 2) := by decide +kernel
theorem dX10_takesBeside_52 : decode M_X10_takesBeside.2.1 52 = .ok (.iconst 0, 1) := by decide +kernel
theorem dX10_takesBeside_53 : decode M_X10_takesBeside.2.1 53 = .ok (.istore 6, 2) := by decide +kernel
theorem dX10_takesBeside_55 : decode M_X10_takesBeside.2.1 55 = .ok (.iload 6, 2) := by decide +kernel
theorem dX10_takesBeside_57 : decode M_X10_takesBeside.2.1 57 = .ok (.aload_n 0, 1) := by decide +kernel
theorem dX10_takesBeside_58 : decode M_X10_takesBeside.2.1 58 = .ok (.getfield 139, 3) := by decide +kernel
theorem dX10_takesBeside_61 : decode M_X10_takesBeside.2.1 61 = .ok (.aload_n 0, 1) := by decide +kernel
theorem dX10_takesBeside_62 : decode M_X10_takesBeside.2.1 62 = .ok (.getfield 139, 3) := by decide +kernel
theorem dX10_takesBeside_65 : decode M_X10_takesBeside.2.1 65 = .ok (.imul, 1) := by decide +kernel
theorem dX10_takesBeside_66 : decode M_X10_takesBeside.2.1 66 = .ok (.if_icmp .ge 79, 3) := by decide +kernel
theorem dX10_takesBeside_69 : decode M_X10_takesBeside.2.1 69 = .ok (.iload 5, 2) := by decide +kernel
theorem dX10_takesBeside_71 : decode M_X10_takesBeside.2.1 71 = .ok (.ifCond .ne 74, 3) := by decide +kernel
theorem dX10_takesBeside_74 : decode M_X10_takesBeside.2.1 74 = .ok (.aload_n 0, 1) := by decide +kernel
theorem dX10_takesBeside_75 : decode M_X10_takesBeside.2.1 75 = .ok (.getfield 49, 3) := by decide +kernel
theorem dX10_takesBeside_78 : decode M_X10_takesBeside.2.1 78 = .ok (.iload 6, 2) := by decide +kernel
theorem dX10_takesBeside_80 : decode M_X10_takesBeside.2.1 80 = .ok (.baload, 1) := by decide +kernel
theorem dX10_takesBeside_81 : decode M_X10_takesBeside.2.1 81 = .ok (.ifCond .ne 6, 3) := by decide +kernel
theorem dX10_takesBeside_84 : decode M_X10_takesBeside.2.1 84 = .ok (.goto 55, 3) := by decide +kernel
theorem dX10_takesBeside_87 : decode M_X10_takesBeside.2.1 87 = .ok (.iconst 0, 1) := by decide +kernel
theorem dX10_takesBeside_88 : decode M_X10_takesBeside.2.1 88 = .ok (.istore 7, 2) := by decide +kernel
theorem dX10_takesBeside_90 : decode M_X10_takesBeside.2.1 90 = .ok (.iload 7, 2) := by decide +kernel
theorem dX10_takesBeside_92 : decode M_X10_takesBeside.2.1 92 = .ok (.iconst 4, 1) := by decide +kernel
theorem dX10_takesBeside_93 : decode M_X10_takesBeside.2.1 93 = .ok (.if_icmp .ge 46, 3) := by decide +kernel
theorem dX10_takesBeside_96 : decode M_X10_takesBeside.2.1 96 = .ok (.iload 5, 2) := by decide +kernel
theorem dX10_takesBeside_98 : decode M_X10_takesBeside.2.1 98 = .ok (.ifCond .ne 41, 3) := by decide +kernel
theorem dX10_takesBeside_101 : decode M_X10_takesBeside.2.1 101 = .ok (.aload_n 0, 1) := by decide +kernel
theorem dX10_takesBeside_102 : decode M_X10_takesBeside.2.1 102 = .ok (.iload 6, 2) := by decide +kernel
theorem dX10_takesBeside_104 : decode M_X10_takesBeside.2.1 104 = .ok (.iload 7, 2) := by decide +kernel
theorem dX10_takesBeside_106 : decode M_X10_takesBeside.2.1 106 = .ok (.invokevirtual 142, 3) := by decide +kernel
theorem dX10_takesBeside_109 : decode M_X10_takesBeside.2.1 109 = .ok (.istore 8, 2) := by decide +kernel
theorem dX10_takesBeside_111 : decode M_X10_takesBeside.2.1 111 = .ok (.iload 8, 2) := by decide +kernel
theorem dX10_takesBeside_113 : decode M_X10_takesBeside.2.1 113 = .ok (.ifCond .lt 17, 3) := by decide +kernel
theorem dX10_takesBeside_116 : decode M_X10_takesBeside.2.1 116 = .ok (.aload_n 0, 1) := by decide +kernel
theorem dX10_takesBeside_117 : decode M_X10_takesBeside.2.1 117 = .ok (.iload 8, 2) := by decide +kernel
theorem dX10_takesBeside_119 : decode M_X10_takesBeside.2.1 119 = .ok (.iload_n 2, 1) := by decide +kernel
theorem dX10_takesBeside_120 : decode M_X10_takesBeside.2.1 120 = .ok (.invokevirtual 336, 3) := by decide +kernel
theorem dX10_takesBeside_123 : decode M_X10_takesBeside.2.1 123 = .ok (.ifCond .eq 7, 3) := by decide +kernel
theorem dX10_takesBeside_126 : decode M_X10_takesBeside.2.1 126 = .ok (.iconst 1, 1) := by decide +kernel
theorem dX10_takesBeside_127 : decode M_X10_takesBeside.2.1 127 = .ok (.goto 4, 3) := by decide +kernel
theorem dX10_takesBeside_130 : decode M_X10_takesBeside.2.1 130 = .ok (.iconst 0, 1) := by decide +kernel
theorem dX10_takesBeside_131 : decode M_X10_takesBeside.2.1 131 = .ok (.istore 5, 2) := by decide +kernel
theorem dX10_takesBeside_133 : decode M_X10_takesBeside.2.1 133 = .ok (.iinc 7 1, 3) := by decide +kernel
theorem dX10_takesBeside_136 : decode M_X10_takesBeside.2.1 136 = .ok (.goto (-46), 3) := by decide +kernel
theorem dX10_takesBeside_139 : decode M_X10_takesBeside.2.1 139 = .ok (.iinc 6 1, 3) := by decide +kernel
theorem dX10_takesBeside_142 : decode M_X10_takesBeside.2.1 142 = .ok (.goto (-87), 3) := by decide +kernel
theorem dX10_takesBeside_145 : decode M_X10_takesBeside.2.1 145 = .ok (.iload 5, 2) := by decide +kernel
theorem dX10_takesBeside_147 : decode M_X10_takesBeside.2.1 147 = .ok (.ifCond .eq 5, 3) := by decide +kernel
theorem dX10_takesBeside_150 : decode M_X10_takesBeside.2.1 150 = .ok (.iconst 1, 1) := by decide +kernel
theorem dX10_takesBeside_151 : decode M_X10_takesBeside.2.1 151 = .ok (.ireturn, 1) := by decide +kernel
theorem dX10_takesBeside_152 : decode M_X10_takesBeside.2.1 152 = .ok (.iinc 3 1, 3) := by decide +kernel
theorem dX10_takesBeside_155 : decode M_X10_takesBeside.2.1 155 = .ok (.goto (-153), 3) := by decide +kernel
theorem dX10_takesBeside_158 : decode M_X10_takesBeside.2.1 158 = .ok (.iconst 0, 1) := by decide +kernel
theorem dX10_takesBeside_159 : decode M_X10_takesBeside.2.1 159 = .ok (.ireturn, 1) := by decide +kernel
def L_X10_takesBeside_2 (X : ZX) (d n : Nat) (P : Option Value → ZSto → Prop) (x1 : Int) (x2 : Int) (x3 : Int) (σ : ZSto) : Prop := R32 x1 → R32 x2 → R32 x3 → ZOk n σ → Zn X M_X10_takesBeside d n P 2 [some (.ref (zB X + 73)), some (iV x1), some (iV x2), some (iV x3), none, none, none, none, none] [] σ
def L_X10_takesBeside_55 (X : ZX) (d n : Nat) (P : Option Value → ZSto → Prop) (x1 : Int) (x2 : Int) (x3 : Int) (x5 : Int) (x6 : Int) (σ : ZSto) : Prop := R32 x1 → R32 x2 → R32 x3 → R32 x5 → R32 x6 → ZOk n σ → Zn X M_X10_takesBeside d n P 55 [some (.ref (zB X + 73)), some (iV x1), some (iV x2), some (iV x3), none, some (iV x5), some (iV x6), none, none] [] σ
def L_X10_takesBeside_90 (X : ZX) (d n : Nat) (P : Option Value → ZSto → Prop) (x1 : Int) (x2 : Int) (x3 : Int) (x5 : Int) (x6 : Int) (x7 : Int) (σ : ZSto) : Prop := R32 x1 → R32 x2 → R32 x3 → R32 x5 → R32 x6 → R32 x7 → ZOk n σ → Zn X M_X10_takesBeside d n P 90 [some (.ref (zB X + 73)), some (iV x1), some (iV x2), some (iV x3), none, some (iV x5), some (iV x6), some (iV x7), none] [] σ
theorem w_X10_takesBeside {X : ZX} {d n : Nat} {P : Int → ZSto → Prop} {x1 : Int} {x2 : Int} {σ : ZSto} (hn : 104 ≤ n)  (hx1 : R32 x1) (hx2 : R32 x2)
    (h : L_X10_takesBeside_2 X d n (zpZ P) x1 x2 0 σ) :
    ZkZ X M_X10_takesBeside (d + 1) n [.ref (zB X + 73), iV x1, iV x2] σ P := by
  refine zk_of (ls := [some (.ref (zB X + 73)), some (iV x1), some (iV x2), none, none, none, none, none, none]) pl_RX10 (Nat.le_of_ble_eq_true rfl) rfl (fun k0 => ?_)
  unfold Zn
  refine r_iconst dX10_takesBeside_0 ?_
  refine r_istore_n dX10_takesBeside_1 rfl rfl ?_
  exact r_mask [true, true, true, true, false, false, false, false, false] rfl (h hx1 hx2 (r32c rfl) k0)
theorem b_X10_takesBeside_2 {X : ZX} {d n : Nat} {P : Int → ZSto → Prop} {x1 : Int} {x2 : Int} {x3 : Int} {σ : ZSto} (hn : 104 ≤ n) 
    (h : (4 ≤ x3 → P 0 σ) ∧ (¬ (4 ≤ x3) → ZkI X M_X10_beside d n [.ref (zB X + 73), iV x1, iV x3] σ (fun v5 σ6 => (v5 < 0 → R32 (x3 + 1) ∧ L_X10_takesBeside_2 X d n (zpZ P) x1 x2 (x3 + 1) σ6) ∧ (¬ (v5 < 0) → (0 ≤ v5 ∧ v5 < 81) ∧ R32 (3 - x2) ∧ (gI σ6 84 v5.toNat = 3 - x2 → ZkI X M_X10_flood d n [.ref (zB X + 73), iV v5] σ6 (fun v23 σ24 => (v23 = 1 → L_X10_takesBeside_55 X d n (zpZ P) x1 x2 x3 0 0 σ24) ∧ (¬ (v23 = 1) → R32 (x3 + 1) ∧ L_X10_takesBeside_2 X d n (zpZ P) x1 x2 (x3 + 1) σ24))) ∧ (¬ (gI σ6 84 v5.toNat = 3 - x2) → R32 (x3 + 1) ∧ L_X10_takesBeside_2 X d n (zpZ P) x1 x2 (x3 + 1) σ6))))) :
    L_X10_takesBeside_2 X d n (zpZ P) x1 x2 x3 σ := by
  intro hx1 hx2 hx3 k0
  unfold Zn
  refine r_iload_n dX10_takesBeside_2 rfl ?_
  refine r_iconst dX10_takesBeside_3 ?_
  refine r_icmp_ge (t := 158) dX10_takesBeside_4 rfl hx3 (r32c rfl) (fun c1 => ?_) (fun c2 => ?_)
  · have h3 := h.1 c1
    refine r_iconst dX10_takesBeside_158 ?_
    exact r_zreturn dX10_takesBeside_159 rfl (Or.inl rfl) ⟨k0, _, rfl, (Or.inl rfl), h3⟩
  · have h4 := h.2 c2
    refine r_aload_n dX10_takesBeside_7 rfl ?_
    refine r_iload_n dX10_takesBeside_8 rfl ?_
    refine r_iload_n dX10_takesBeside_9 rfl ?_
    refine n_callV (N := M_X10_beside) (As := [iV x1, iV x3]) (st := []) dX10_takesBeside_10 mk_X10_beside km_RX10_142 kd_X10_beside rfl (zlt hn rfl) sh_73 (q := (RX10, TX10, 52)) rfl rfl (zFits_rm d n n n (Nat.le_refl n)) (Nat.le_of_ble_eq_true rfl) rfl k0 h4 ?_
    rintro _ σ6 k7 ⟨v5, rfl, h8, h9⟩
    change Zm _ _ _ _ _ _ 13 _ [iV v5] _
    refine r_istore dX10_takesBeside_13 rfl rfl ?_
    refine r_iload dX10_takesBeside_15 rfl ?_
    refine r_if_lt (t := 152) dX10_takesBeside_17 rfl h8  (fun c10 => ?_) (fun c11 => ?_)
    · have h12 := h9.1 c10
      refine r_iinc dX10_takesBeside_152 rfl rfl rfl ?_
      refine r_goto (t := 2) dX10_takesBeside_155 rfl ?_
      obtain ⟨h13, h14⟩ := h12
      exact r_mask [true, true, true, true, false, false, false, false, false] rfl (h14 hx1 hx2 h13 k7)
    · have h15 := h9.2 c11
      refine r_aload_n dX10_takesBeside_20 rfl ?_
      refine r_getP (a := 84) dX10_takesBeside_21 kf_RX10_46 (zlt hn rfl) sh_73 rfl (k7.1 _ _ _ (zlt hn rfl) p_73_14) ?_
      refine r_iload dX10_takesBeside_24 rfl ?_
      obtain ⟨h16, h17⟩ := h15
      refine r_baloadE dX10_takesBeside_26 (zlt hn rfl) sh_84 h16.1 h16.2 rfl ?_
      refine r_iconst dX10_takesBeside_27 ?_
      refine r_iload_n dX10_takesBeside_28 rfl ?_
      refine r_isub dX10_takesBeside_29 ?_
      obtain ⟨h18, h19⟩ := h17
      refine r_icmp_eq (t := 36) dX10_takesBeside_30 rfl (k7.2.1 _ _) h18 (fun c20 => ?_) (fun c21 => ?_)
      · have h22 := h19.1 c20
        refine r_aload_n dX10_takesBeside_36 rfl ?_
        refine r_iload dX10_takesBeside_37 rfl ?_
        refine n_callV (N := M_X10_flood) (As := [iV v5]) (st := []) dX10_takesBeside_39 mk_X10_flood km_RX10_148 kd_X10_flood rfl (zlt hn rfl) sh_73 (q := (RX10, TX10, 52)) rfl rfl (zFits_rm d n n n (Nat.le_refl n)) (Nat.le_of_ble_eq_true rfl) rfl k7 h22 ?_
        rintro _ σ24 k25 ⟨v23, rfl, h26, h27⟩
        change Zm _ _ _ _ _ _ 42 _ [iV v23] _
        refine r_iconst dX10_takesBeside_42 ?_
        refine r_icmp_eq (t := 49) dX10_takesBeside_43 rfl h26 (r32c rfl) (fun c28 => ?_) (fun c29 => ?_)
        · have h30 := h27.1 c28
          refine r_iconst dX10_takesBeside_49 ?_
          refine r_istore dX10_takesBeside_50 rfl rfl ?_
          refine r_iconst dX10_takesBeside_52 ?_
          refine r_istore dX10_takesBeside_53 rfl rfl ?_
          exact r_mask [true, true, true, true, false, true, true, false, false] rfl (h30 hx1 hx2 hx3 (r32c rfl) (r32c rfl) k25)
        · have h31 := h27.2 c29
          refine r_goto (t := 152) dX10_takesBeside_46 rfl ?_
          refine r_iinc dX10_takesBeside_152 rfl rfl rfl ?_
          refine r_goto (t := 2) dX10_takesBeside_155 rfl ?_
          obtain ⟨h32, h33⟩ := h31
          exact r_mask [true, true, true, true, false, false, false, false, false] rfl (h33 hx1 hx2 h32 k25)
      · have h34 := h19.2 c21
        refine r_goto (t := 152) dX10_takesBeside_33 rfl ?_
        refine r_iinc dX10_takesBeside_152 rfl rfl rfl ?_
        refine r_goto (t := 2) dX10_takesBeside_155 rfl ?_
        obtain ⟨h35, h36⟩ := h34
        exact r_mask [true, true, true, true, false, false, false, false, false] rfl (h36 hx1 hx2 h35 k7)
theorem b_X10_takesBeside_55 {X : ZX} {d n : Nat} {P : Int → ZSto → Prop} {x1 : Int} {x2 : Int} {x3 : Int} {x5 : Int} {x6 : Int} {σ : ZSto} (hn : 104 ≤ n) 
    (h : R32 ((gI σ 73 13) * (gI σ 73 13)) ∧ ((gI σ 73 13) * (gI σ 73 13) ≤ x6 → (x5 = 0 → R32 (x3 + 1) ∧ L_X10_takesBeside_2 X d n (zpZ P) x1 x2 (x3 + 1) σ) ∧ (¬ (x5 = 0) → P 1 σ)) ∧ (¬ ((gI σ 73 13) * (gI σ 73 13) ≤ x6) → (¬ x5 = 0 → (x5 = 0 → R32 (x3 + 1) ∧ L_X10_takesBeside_2 X d n (zpZ P) x1 x2 (x3 + 1) σ) ∧ (¬ (x5 = 0) → P 1 σ)) ∧ (x5 = 0 → (0 ≤ x6 ∧ x6 < 81) ∧ (¬ gI σ 85 x6.toNat = 0 → L_X10_takesBeside_90 X d n (zpZ P) x1 x2 x3 x5 x6 0 σ) ∧ (gI σ 85 x6.toNat = 0 → R32 (x6 + 1) ∧ L_X10_takesBeside_55 X d n (zpZ P) x1 x2 x3 x5 (x6 + 1) σ)))) :
    L_X10_takesBeside_55 X d n (zpZ P) x1 x2 x3 x5 x6 σ := by
  intro hx1 hx2 hx3 hx5 hx6 k0
  unfold Zn
  refine r_iload dX10_takesBeside_55 rfl ?_
  refine r_aload_n dX10_takesBeside_57 rfl ?_
  refine r_getI dX10_takesBeside_58 kf_RX10_139 (zlt hn rfl) sh_73 (Or.inl rfl) rfl ?_
  refine r_aload_n dX10_takesBeside_61 rfl ?_
  refine r_getI dX10_takesBeside_62 kf_RX10_139 (zlt hn rfl) sh_73 (Or.inl rfl) rfl ?_
  refine r_imul dX10_takesBeside_65 ?_
  obtain ⟨h1, h2⟩ := h
  refine r_icmp_ge (t := 145) dX10_takesBeside_66 rfl hx6 h1 (fun c3 => ?_) (fun c4 => ?_)
  · have h5 := h2.1 c3
    refine r_iload dX10_takesBeside_145 rfl ?_
    refine r_if_eq (t := 152) dX10_takesBeside_147 rfl hx5  (fun c6 => ?_) (fun c7 => ?_)
    · have h8 := h5.1 c6
      refine r_iinc dX10_takesBeside_152 rfl rfl rfl ?_
      refine r_goto (t := 2) dX10_takesBeside_155 rfl ?_
      obtain ⟨h9, h10⟩ := h8
      exact r_mask [true, true, true, true, false, false, false, false, false] rfl (h10 hx1 hx2 h9 k0)
    · have h11 := h5.2 c7
      refine r_iconst dX10_takesBeside_150 ?_
      exact r_zreturn dX10_takesBeside_151 rfl (Or.inr rfl) ⟨k0, _, rfl, (Or.inr rfl), h11⟩
  · have h12 := h2.2 c4
    refine r_iload dX10_takesBeside_69 rfl ?_
    refine r_if_ne (t := 145) dX10_takesBeside_71 rfl hx5  (fun c13 => ?_) (fun c14 => ?_)
    · have h15 := h12.1 c13
      refine r_iload dX10_takesBeside_145 rfl ?_
      refine r_if_eq (t := 152) dX10_takesBeside_147 rfl hx5  (fun c16 => ?_) (fun c17 => ?_)
      · have h18 := h15.1 c16
        refine r_iinc dX10_takesBeside_152 rfl rfl rfl ?_
        refine r_goto (t := 2) dX10_takesBeside_155 rfl ?_
        obtain ⟨h19, h20⟩ := h18
        exact r_mask [true, true, true, true, false, false, false, false, false] rfl (h20 hx1 hx2 h19 k0)
      · have h21 := h15.2 c17
        refine r_iconst dX10_takesBeside_150 ?_
        exact r_zreturn dX10_takesBeside_151 rfl (Or.inr rfl) ⟨k0, _, rfl, (Or.inr rfl), h21⟩
    · have h22 := h12.2 c14
      refine r_aload_n dX10_takesBeside_74 rfl ?_
      refine r_getP (a := 85) dX10_takesBeside_75 kf_RX10_49 (zlt hn rfl) sh_73 rfl (k0.1 _ _ _ (zlt hn rfl) p_73_15) ?_
      refine r_iload dX10_takesBeside_78 rfl ?_
      obtain ⟨h23, h24⟩ := h22
      refine r_zaloadE dX10_takesBeside_80 (zlt hn rfl) sh_85 h23.1 h23.2 rfl ?_
      refine r_if_ne (t := 87) dX10_takesBeside_81 rfl (k0.2.1 _ _)  (fun c25 => ?_) (fun c26 => ?_)
      · have h27 := h24.1 c25
        refine r_iconst dX10_takesBeside_87 ?_
        refine r_istore dX10_takesBeside_88 rfl rfl ?_
        exact r_mask [true, true, true, true, false, true, true, true, false] rfl (h27 hx1 hx2 hx3 hx5 hx6 (r32c rfl) k0)
      · have h28 := h24.2 c26
        refine r_goto (t := 139) dX10_takesBeside_84 rfl ?_
        refine r_iinc dX10_takesBeside_139 rfl rfl rfl ?_
        refine r_goto (t := 55) dX10_takesBeside_142 rfl ?_
        obtain ⟨h29, h30⟩ := h28
        exact r_mask [true, true, true, true, false, true, true, false, false] rfl (h30 hx1 hx2 hx3 hx5 h29 k0)
theorem b_X10_takesBeside_90 {X : ZX} {d n : Nat} {P : Int → ZSto → Prop} {x1 : Int} {x2 : Int} {x3 : Int} {x5 : Int} {x6 : Int} {x7 : Int} {σ : ZSto} (hn : 104 ≤ n) 
    (h : (4 ≤ x7 → R32 (x6 + 1) ∧ L_X10_takesBeside_55 X d n (zpZ P) x1 x2 x3 x5 (x6 + 1) σ) ∧ (¬ (4 ≤ x7) → (¬ x5 = 0 → R32 (x6 + 1) ∧ L_X10_takesBeside_55 X d n (zpZ P) x1 x2 x3 x5 (x6 + 1) σ) ∧ (x5 = 0 → ZkI X M_X10_beside d n [.ref (zB X + 73), iV x6, iV x7] σ (fun v13 σ14 => (v13 < 0 → R32 (x7 + 1) ∧ L_X10_takesBeside_90 X d n (zpZ P) x1 x2 x3 0 x6 (x7 + 1) σ14) ∧ (¬ (v13 < 0) → ZkZ X M_X10_isOfTarget d n [.ref (zB X + 73), iV v13, iV x2] σ14 (fun v24 σ25 => (v24 = 0 → R32 (x7 + 1) ∧ L_X10_takesBeside_90 X d n (zpZ P) x1 x2 x3 0 x6 (x7 + 1) σ25) ∧ (¬ (v24 = 0) → R32 (x7 + 1) ∧ L_X10_takesBeside_90 X d n (zpZ P) x1 x2 x3 1 x6 (x7 + 1) σ25))))))) :
    L_X10_takesBeside_90 X d n (zpZ P) x1 x2 x3 x5 x6 x7 σ := by
  intro hx1 hx2 hx3 hx5 hx6 hx7 k0
  unfold Zn
  refine r_iload dX10_takesBeside_90 rfl ?_
  refine r_iconst dX10_takesBeside_92 ?_
  refine r_icmp_ge (t := 139) dX10_takesBeside_93 rfl hx7 (r32c rfl) (fun c1 => ?_) (fun c2 => ?_)
  · have h3 := h.1 c1
    refine r_iinc dX10_takesBeside_139 rfl rfl rfl ?_
    refine r_goto (t := 55) dX10_takesBeside_142 rfl ?_
    obtain ⟨h4, h5⟩ := h3
    exact r_mask [true, true, true, true, false, true, true, false, false] rfl (h5 hx1 hx2 hx3 hx5 h4 k0)
  · have h6 := h.2 c2
    refine r_iload dX10_takesBeside_96 rfl ?_
    refine r_if_ne (t := 139) dX10_takesBeside_98 rfl hx5  (fun c7 => ?_) (fun c8 => ?_)
    · have h9 := h6.1 c7
      refine r_iinc dX10_takesBeside_139 rfl rfl rfl ?_
      refine r_goto (t := 55) dX10_takesBeside_142 rfl ?_
      obtain ⟨h10, h11⟩ := h9
      exact r_mask [true, true, true, true, false, true, true, false, false] rfl (h11 hx1 hx2 hx3 hx5 h10 k0)
    · have h12 := h6.2 c8
      refine r_aload_n dX10_takesBeside_101 rfl ?_
      refine r_iload dX10_takesBeside_102 rfl ?_
      refine r_iload dX10_takesBeside_104 rfl ?_
      refine n_callV (N := M_X10_beside) (As := [iV x6, iV x7]) (st := []) dX10_takesBeside_106 mk_X10_beside km_RX10_142 kd_X10_beside rfl (zlt hn rfl) sh_73 (q := (RX10, TX10, 52)) rfl rfl (zFits_rm d n n n (Nat.le_refl n)) (Nat.le_of_ble_eq_true rfl) rfl k0 h12 ?_
      rintro _ σ14 k15 ⟨v13, rfl, h16, h17⟩
      change Zm _ _ _ _ _ _ 109 _ [iV v13] _
      refine r_istore dX10_takesBeside_109 rfl rfl ?_
      refine r_iload dX10_takesBeside_111 rfl ?_
      refine r_if_lt (t := 130) dX10_takesBeside_113 rfl h16  (fun c18 => ?_) (fun c19 => ?_)
      · have h20 := h17.1 c18
        refine r_iconst dX10_takesBeside_130 ?_
        refine r_istore dX10_takesBeside_131 rfl rfl ?_
        refine r_iinc dX10_takesBeside_133 rfl rfl rfl ?_
        refine r_goto (t := 90) dX10_takesBeside_136 rfl ?_
        obtain ⟨h21, h22⟩ := h20
        exact r_mask [true, true, true, true, false, true, true, true, false] rfl (h22 hx1 hx2 hx3 (r32c rfl) hx6 h21 k15)
      · have h23 := h17.2 c19
        refine r_aload_n dX10_takesBeside_116 rfl ?_
        refine r_iload dX10_takesBeside_117 rfl ?_
        refine r_iload_n dX10_takesBeside_119 rfl ?_
        refine n_callV (N := M_X10_isOfTarget) (As := [iV v13, iV x2]) (st := []) dX10_takesBeside_120 mk_X10_isOfTarget km_RX10_336 kd_X10_isOfTarget rfl (zlt hn rfl) sh_73 (q := (RX10, TX10, 52)) rfl rfl (zFits_rm d n n n (Nat.le_refl n)) (Nat.le_of_ble_eq_true rfl) rfl k15 h23 ?_
        rintro _ σ25 k26 ⟨v24, rfl, h27, h28⟩
        change Zm _ _ _ _ _ _ 123 _ [iV v24] _
        refine r_if_eq (t := 130) dX10_takesBeside_123 rfl (r32_z h27)  (fun c29 => ?_) (fun c30 => ?_)
        · have h31 := h28.1 c29
          refine r_iconst dX10_takesBeside_130 ?_
          refine r_istore dX10_takesBeside_131 rfl rfl ?_
          refine r_iinc dX10_takesBeside_133 rfl rfl rfl ?_
          refine r_goto (t := 90) dX10_takesBeside_136 rfl ?_
          obtain ⟨h32, h33⟩ := h31
          exact r_mask [true, true, true, true, false, true, true, true, false] rfl (h33 hx1 hx2 hx3 (r32c rfl) hx6 h32 k26)
        · have h34 := h28.2 c30
          refine r_iconst dX10_takesBeside_126 ?_
          refine r_goto (t := 131) dX10_takesBeside_127 rfl ?_
          refine r_istore dX10_takesBeside_131 rfl rfl ?_
          refine r_iinc dX10_takesBeside_133 rfl rfl rfl ?_
          refine r_goto (t := 90) dX10_takesBeside_136 rfl ?_
          obtain ⟨h35, h36⟩ := h34
          exact r_mask [true, true, true, true, false, true, true, true, false] rfl (h36 hx1 hx2 hx3 (r32c rfl) hx6 h35 k26)
/-! StoneRoomModel.isOfTarget -/
theorem dX10_isOfTarget_0 : decode M_X10_isOfTarget.2.1 0 = .ok (.aload_n 0, 1) := by decide +kernel
theorem dX10_isOfTarget_1 : decode M_X10_isOfTarget.2.1 1 = .ok (.getfield 46, 3) := by decide +kernel
theorem dX10_isOfTarget_4 : decode M_X10_isOfTarget.2.1 4 = .ok (.iload_n 1, 1) := by decide +kernel
theorem dX10_isOfTarget_5 : decode M_X10_isOfTarget.2.1 5 = .ok (.baload, 1) := by decide +kernel
theorem dX10_isOfTarget_6 : decode M_X10_isOfTarget.2.1 6 = .ok (.iload_n 2, 1) := by decide +kernel
theorem dX10_isOfTarget_7 : decode M_X10_isOfTarget.2.1 7 = .ok (.if_icmp .eq 5, 3) := by decide +kernel
theorem dX10_isOfTarget_10 : decode M_X10_isOfTarget.2.1 10 = .ok (.iconst 0, 1) := by decide +kernel
theorem dX10_isOfTarget_11 : decode M_X10_isOfTarget.2.1 11 = .ok (.ireturn, 1) := by decide +kernel
theorem dX10_isOfTarget_12 : decode M_X10_isOfTarget.2.1 12 = .ok (.aload_n 0, 1) := by decide +kernel
theorem dX10_isOfTarget_13 : decode M_X10_isOfTarget.2.1 13 = .ok (.getfield 99, 3) := by decide +kernel
theorem dX10_isOfTarget_16 : decode M_X10_isOfTarget.2.1 16 = .ok (.iload_n 1, 1) := by decide +kernel
theorem dX10_isOfTarget_17 : decode M_X10_isOfTarget.2.1 17 = .ok (.baload, 1) := by decide +kernel
theorem dX10_isOfTarget_18 : decode M_X10_isOfTarget.2.1 18 = .ok (.ireturn, 1) := by decide +kernel
theorem w_X10_isOfTarget {X : ZX} {d n : Nat} {P : Int → ZSto → Prop} {x1 : Int} {x2 : Int} {σ : ZSto} (hn : 104 ≤ n)  (hx1 : R32 x1) (hx2 : R32 x2)
    (h : (0 ≤ x1 ∧ x1 < 81) ∧ (gI σ 84 x1.toNat = x2 → P (gI σ 98 x1.toNat) σ) ∧ (¬ (gI σ 84 x1.toNat = x2) → P 0 σ)) :
    ZkZ X M_X10_isOfTarget (d + 1) n [.ref (zB X + 73), iV x1, iV x2] σ P := by
  refine zk_of (ls := [some (.ref (zB X + 73)), some (iV x1), some (iV x2)]) pl_RX10 (Nat.le_of_ble_eq_true rfl) rfl (fun k0 => ?_)
  unfold Zn
  refine r_aload_n dX10_isOfTarget_0 rfl ?_
  refine r_getP (a := 84) dX10_isOfTarget_1 kf_RX10_46 (zlt hn rfl) sh_73 rfl (k0.1 _ _ _ (zlt hn rfl) p_73_14) ?_
  refine r_iload_n dX10_isOfTarget_4 rfl ?_
  obtain ⟨h1, h2⟩ := h
  refine r_baloadE dX10_isOfTarget_5 (zlt hn rfl) sh_84 h1.1 h1.2 rfl ?_
  refine r_iload_n dX10_isOfTarget_6 rfl ?_
  refine r_icmp_eq (t := 12) dX10_isOfTarget_7 rfl (k0.2.1 _ _) hx2 (fun c3 => ?_) (fun c4 => ?_)
  · have h5 := h2.1 c3
    refine r_aload_n dX10_isOfTarget_12 rfl ?_
    refine r_getP (a := 98) dX10_isOfTarget_13 kf_RX10_99 (zlt hn rfl) sh_73 rfl (k0.1 _ _ _ (zlt hn rfl) p_73_45) ?_
    refine r_iload_n dX10_isOfTarget_16 rfl ?_
    refine r_zaloadE dX10_isOfTarget_17 (zlt hn rfl) sh_98 h1.1 h1.2 rfl ?_
    exact r_zreturn dX10_isOfTarget_18 rfl (zok_bz k0 sh_98) ⟨k0, _, rfl, (zok_bz k0 sh_98), h5⟩
  · have h6 := h2.2 c4
    refine r_iconst dX10_isOfTarget_10 ?_
    exact r_zreturn dX10_isOfTarget_11 rfl (Or.inl rfl) ⟨k0, _, rfl, (Or.inl rfl), h6⟩
/-! StoneRoomModel.mine -/
theorem dX10_mine_0 : decode M_X10_mine.2.1 0 = .ok (.aload_n 0, 1) := by decide +kernel
theorem dX10_mine_1 : decode M_X10_mine.2.1 1 = .ok (.aload_n 0, 1) := by decide +kernel
theorem dX10_mine_2 : decode M_X10_mine.2.1 2 = .ok (.getfield 318, 3) := by decide +kernel
theorem dX10_mine_5 : decode M_X10_mine.2.1 5 = .ok (.invokevirtual 148, 3) := by decide +kernel
theorem dX10_mine_8 : decode M_X10_mine.2.1 8 = .ok (.istore_n 1, 1) := by decide +kernel
theorem dX10_mine_9 : decode M_X10_mine.2.1 9 = .ok (.iconst 0, 1) := by decide +kernel
theorem dX10_mine_10 : decode M_X10_mine.2.1 10 = .ok (.istore_n 2, 1) := by decide +kernel
theorem dX10_mine_11 : decode M_X10_mine.2.1 11 = .ok (.iload_n 2, 1) := by decide +kernel
theorem dX10_mine_12 : decode M_X10_mine.2.1 12 = .ok (.bipush 81, 2) := by decide +kernel
theorem dX10_mine_14 : decode M_X10_mine.2.1 14 = .ok (.if_icmp .ge 21, 3) := by decide +kernel
theorem dX10_mine_17 : decode M_X10_mine.2.1 17 = .ok (.aload_n 0, 1) := by decide +kernel
theorem dX10_mine_18 : decode M_X10_mine.2.1 18 = .ok (.getfield 99, 3) := by decide +kernel
theorem dX10_mine_21 : decode M_X10_mine.2.1 21 = .ok (.iload_n 2, 1) := by decide +kernel
theorem dX10_mine_22 : decode M_X10_mine.2.1 22 = .ok (.aload_n 0, 1) := by decide +kernel
theorem dX10_mine_23 : decode M_X10_mine.2.1 23 = .ok (.getfield 49, 3) := by decide +kernel
theorem dX10_mine_26 : decode M_X10_mine.2.1 26 = .ok (.iload_n 2, 1) := by decide +kernel
theorem dX10_mine_27 : decode M_X10_mine.2.1 27 = .ok (.baload, 1) := by decide +kernel
theorem dX10_mine_28 : decode M_X10_mine.2.1 28 = .ok (.bastore, 1) := by decide +kernel
theorem dX10_mine_29 : decode M_X10_mine.2.1 29 = .ok (.iinc 2 1, 3) := by decide +kernel
theorem dX10_mine_32 : decode M_X10_mine.2.1 32 = .ok (.goto (-21), 3) := by decide +kernel
theorem dX10_mine_35 : decode M_X10_mine.2.1 35 = .ok (.return_, 1) := by decide +kernel
def L_X10_mine_11 (X : ZX) (d n : Nat) (P : Option Value → ZSto → Prop) (x2 : Int) (σ : ZSto) : Prop := R32 x2 → ZOk n σ → Zn X M_X10_mine d n P 11 [some (.ref (zB X + 73)), none, some (iV x2)] [] σ
theorem w_X10_mine {X : ZX} {d n : Nat} {P : ZSto → Prop}  {σ : ZSto} (hn : 104 ≤ n)  
    (h : ZkI X M_X10_flood d n [.ref (zB X + 73), iV (gI σ 73 44)] σ (fun v1 σ2 => L_X10_mine_11 X d n (zpV P) 0 σ2)) :
    ZkV X M_X10_mine (d + 1) n [.ref (zB X + 73)] σ P := by
  refine zk_of (ls := [some (.ref (zB X + 73)), none, none]) pl_RX10 (Nat.le_of_ble_eq_true rfl) rfl (fun k0 => ?_)
  unfold Zn
  refine r_aload_n dX10_mine_0 rfl ?_
  refine r_aload_n dX10_mine_1 rfl ?_
  refine r_getI dX10_mine_2 kf_RX10_318 (zlt hn rfl) sh_73 (Or.inl rfl) rfl ?_
  refine n_callV (N := M_X10_flood) (As := [iV (gI σ 73 44)]) (st := []) dX10_mine_5 mk_X10_flood km_RX10_148 kd_X10_flood rfl (zlt hn rfl) sh_73 (q := (RX10, TX10, 52)) rfl rfl (zFits_rm d n n n (Nat.le_refl n)) (Nat.le_of_ble_eq_true rfl) rfl k0 h ?_
  rintro _ σ2 k3 ⟨v1, rfl, h4, h5⟩
  change Zm _ _ _ _ _ _ 8 _ [iV v1] _
  refine r_istore_n dX10_mine_8 rfl rfl ?_
  refine r_iconst dX10_mine_9 ?_
  refine r_istore_n dX10_mine_10 rfl rfl ?_
  exact r_mask [true, false, true] rfl (h5 (r32c rfl) k3)
theorem b_X10_mine_11 {X : ZX} {d n : Nat} {P : ZSto → Prop} {x2 : Int} {σ : ZSto} (hn : 104 ≤ n) 
    (h : (81 ≤ x2 → P σ) ∧ (¬ (81 ≤ x2) → (0 ≤ x2 ∧ x2 < 81) ∧ R32 (x2 + 1) ∧ L_X10_mine_11 X d n (zpV P) (x2 + 1) (sI σ 98 x2.toNat (gI σ 85 x2.toNat)))) :
    L_X10_mine_11 X d n (zpV P) x2 σ := by
  intro hx2 k0
  unfold Zn
  refine r_iload_n dX10_mine_11 rfl ?_
  refine r_bipush dX10_mine_12 rfl ?_
  refine r_icmp_ge (t := 35) dX10_mine_14 rfl hx2 (r32c rfl) (fun c1 => ?_) (fun c2 => ?_)
  · have h3 := h.1 c1
    exact r_return dX10_mine_35 rfl ⟨k0, rfl, h3⟩
  · have h4 := h.2 c2
    refine r_aload_n dX10_mine_17 rfl ?_
    refine r_getP (a := 98) dX10_mine_18 kf_RX10_99 (zlt hn rfl) sh_73 rfl (k0.1 _ _ _ (zlt hn rfl) p_73_45) ?_
    refine r_iload_n dX10_mine_21 rfl ?_
    refine r_aload_n dX10_mine_22 rfl ?_
    refine r_getP (a := 85) dX10_mine_23 kf_RX10_49 (zlt hn rfl) sh_73 rfl (k0.1 _ _ _ (zlt hn rfl) p_73_15) ?_
    refine r_iload_n dX10_mine_26 rfl ?_
    obtain ⟨h5, h6⟩ := h4
    refine r_zaloadE dX10_mine_27 (zlt hn rfl) sh_85 h5.1 h5.2 rfl ?_
    refine r_zastore dX10_mine_28 (zlt hn rfl) sh_98 h5.1 h5.2 (zok_bz k0 sh_85) ?_
    have k7 := zok_z (i := x2.toNat) (x := gI σ 85 x2.toNat) k0 sh_98 (zok_bz k0 sh_85)
    refine r_iinc dX10_mine_29 rfl rfl rfl ?_
    refine r_goto (t := 11) dX10_mine_32 rfl ?_
    obtain ⟨h8, h9⟩ := h6
    exact r_mask [true, false, true] rfl (h9 h8 k7)
/-! StoneRoomModel.saves -/
theorem dX10_saves_0 : decode M_X10_saves.2.1 0 = .ok (.aload_n 0, 1) := by decide +kernel
theorem dX10_saves_1 : decode M_X10_saves.2.1 1 = .ok (.iload_n 1, 1) := by decide +kernel
theorem dX10_saves_2 : decode M_X10_saves.2.1 2 = .ok (.iload_n 2, 1) := by decide +kernel
theorem dX10_saves_3 : decode M_X10_saves.2.1 3 = .ok (.invokevirtual 324, 3) := by decide +kernel
theorem dX10_saves_6 : decode M_X10_saves.2.1 6 = .ok (.ifCond .ne 9, 3) := by decide +kernel
theorem dX10_saves_9 : decode M_X10_saves.2.1 9 = .ok (.aload_n 0, 1) := by decide +kernel
theorem dX10_saves_10 : decode M_X10_saves.2.1 10 = .ok (.invokevirtual 339, 3) := by decide +kernel
theorem dX10_saves_13 : decode M_X10_saves.2.1 13 = .ok (.iconst 0, 1) := by decide +kernel
theorem dX10_saves_14 : decode M_X10_saves.2.1 14 = .ok (.ireturn, 1) := by decide +kernel
theorem dX10_saves_15 : decode M_X10_saves.2.1 15 = .ok (.aload_n 0, 1) := by decide +kernel
theorem dX10_saves_16 : decode M_X10_saves.2.1 16 = .ok (.aload_n 0, 1) := by decide +kernel
theorem dX10_saves_17 : decode M_X10_saves.2.1 17 = .ok (.getfield 318, 3) := by decide +kernel
theorem dX10_saves_20 : decode M_X10_saves.2.1 20 = .ok (.invokevirtual 148, 3) := by decide +kernel
theorem dX10_saves_23 : decode M_X10_saves.2.1 23 = .ok (.istore_n 3, 1) := by decide +kernel
theorem dX10_saves_24 : decode M_X10_saves.2.1 24 = .ok (.iload_n 3, 1) := by decide +kernel
theorem dX10_saves_25 : decode M_X10_saves.2.1 25 = .ok (.iconst 3, 1) := by decide +kernel
theorem dX10_saves_26 : decode M_X10_saves.2.1 26 = .ok (.if_icmp .ge 23, 3) := by decide +kernel
theorem dX10_saves_29 : decode M_X10_saves.2.1 29 = .ok (.iload_n 3, 1) := by decide +kernel
theorem dX10_saves_30 : decode M_X10_saves.2.1 30 = .ok (.iconst 2, 1) := by decide +kernel
theorem dX10_saves_31 : decode M_X10_saves.2.1 31 = .ok (.if_icmp .ne 22, 3) := by decide +kernel
theorem dX10_saves_34 : decode M_X10_saves.2.1 34 = .ok (.aload_n 0, 1) := by decide +kernel
theorem dX10_saves_35 : decode M_X10_saves.2.1 35 = .ok (.iload_n 2, 1) := by decide +kernel
theorem dX10_saves_36 : decode M_X10_saves.2.1 36 = .ok (.invokevirtual 342, 3) := by decide +kernel
theorem dX10_saves_39 : decode M_X10_saves.2.1 39 = .ok (.ifCond .ne 14, 3) := by decide +kernel
theorem dX10_saves_42 : decode M_X10_saves.2.1 42 = .ok (.aload_n 0, 1) := by decide +kernel
theorem dX10_saves_43 : decode M_X10_saves.2.1 43 = .ok (.getfield 305, 3) := by decide +kernel
theorem dX10_saves_46 : decode M_X10_saves.2.1 46 = .ok (.ifCond .ne 7, 3) := by decide +kernel
theorem dX10_saves_49 : decode M_X10_saves.2.1 49 = .ok (.iconst 1, 1) := by decide +kernel
theorem dX10_saves_50 : decode M_X10_saves.2.1 50 = .ok (.goto 4, 3) := by decide +kernel
theorem dX10_saves_53 : decode M_X10_saves.2.1 53 = .ok (.iconst 0, 1) := by decide +kernel
theorem dX10_saves_54 : decode M_X10_saves.2.1 54 = .ok (.istore 4, 2) := by decide +kernel
theorem dX10_saves_56 : decode M_X10_saves.2.1 56 = .ok (.aload_n 0, 1) := by decide +kernel
theorem dX10_saves_57 : decode M_X10_saves.2.1 57 = .ok (.invokevirtual 315, 3) := by decide +kernel
theorem dX10_saves_60 : decode M_X10_saves.2.1 60 = .ok (.aload_n 0, 1) := by decide +kernel
theorem dX10_saves_61 : decode M_X10_saves.2.1 61 = .ok (.invokevirtual 339, 3) := by decide +kernel
theorem dX10_saves_64 : decode M_X10_saves.2.1 64 = .ok (.iload 4, 2) := by decide +kernel
theorem dX10_saves_66 : decode M_X10_saves.2.1 66 = .ok (.ireturn, 1) := by decide +kernel
theorem w_X10_saves {X : ZX} {d n : Nat} {P : Int → ZSto → Prop} {x1 : Int} {x2 : Int} {σ : ZSto} (hn : 104 ≤ n)  (hx1 : R32 x1) (hx2 : R32 x2)
    (h : ZkZ X M_X10_tries d n [.ref (zB X + 73), iV x1, iV x2] σ (fun v1 σ2 => (¬ v1 = 0 → ZkI X M_X10_flood d n [.ref (zB X + 73), iV (gI σ2 73 44)] σ2 (fun v9 σ10 => (3 ≤ v9 → ZkV X M_X10_pops d n [.ref (zB X + 73)] σ10 (fun σ18 => ZkV X M_X10_mine d n [.ref (zB X + 73)] σ18 (fun σ23 => P 1 σ23))) ∧ (¬ (3 ≤ v9) → (¬ v9 = 2 → ZkV X M_X10_pops d n [.ref (zB X + 73)] σ10 (fun σ32 => ZkV X M_X10_mine d n [.ref (zB X + 73)] σ32 (fun σ37 => P 0 σ37))) ∧ (v9 = 2 → ZkZ X M_X10_takesChain d n [.ref (zB X + 73), iV x2] σ10 (fun v42 σ43 => (¬ v42 = 0 → ZkV X M_X10_pops d n [.ref (zB X + 73)] σ43 (fun σ51 => ZkV X M_X10_mine d n [.ref (zB X + 73)] σ51 (fun σ56 => P 0 σ56))) ∧ (v42 = 0 → (¬ gI σ43 73 43 = 0 → ZkV X M_X10_pops d n [.ref (zB X + 73)] σ43 (fun σ65 => ZkV X M_X10_mine d n [.ref (zB X + 73)] σ65 (fun σ70 => P 0 σ70))) ∧ (gI σ43 73 43 = 0 → ZkV X M_X10_pops d n [.ref (zB X + 73)] σ43 (fun σ76 => ZkV X M_X10_mine d n [.ref (zB X + 73)] σ76 (fun σ81 => P 1 σ81))))))))) ∧ (v1 = 0 → ZkV X M_X10_mine d n [.ref (zB X + 73)] σ2 (fun σ87 => P 0 σ87)))) :
    ZkZ X M_X10_saves (d + 1) n [.ref (zB X + 73), iV x1, iV x2] σ P := by
  refine zk_of (ls := [some (.ref (zB X + 73)), some (iV x1), some (iV x2), none, none]) pl_RX10 (Nat.le_of_ble_eq_true rfl) rfl (fun k0 => ?_)
  unfold Zn
  refine r_aload_n dX10_saves_0 rfl ?_
  refine r_iload_n dX10_saves_1 rfl ?_
  refine r_iload_n dX10_saves_2 rfl ?_
  refine n_callV (N := M_X10_tries) (As := [iV x1, iV x2]) (st := []) dX10_saves_3 mk_X10_tries km_RX10_324 kd_X10_tries rfl (zlt hn rfl) sh_73 (q := (RX10, TX10, 52)) rfl rfl (zFits_rm d n n n (Nat.le_refl n)) (Nat.le_of_ble_eq_true rfl) rfl k0 h ?_
  rintro _ σ2 k3 ⟨v1, rfl, h4, h5⟩
  change Zm _ _ _ _ _ _ 6 _ [iV v1] _
  refine r_if_ne (t := 15) dX10_saves_6 rfl (r32_z h4)  (fun c6 => ?_) (fun c7 => ?_)
  · have h8 := h5.1 c6
    refine r_aload_n dX10_saves_15 rfl ?_
    refine r_aload_n dX10_saves_16 rfl ?_
    refine r_getI dX10_saves_17 kf_RX10_318 (zlt hn rfl) sh_73 (Or.inl rfl) rfl ?_
    refine n_callV (N := M_X10_flood) (As := [iV (gI σ2 73 44)]) (st := []) dX10_saves_20 mk_X10_flood km_RX10_148 kd_X10_flood rfl (zlt hn rfl) sh_73 (q := (RX10, TX10, 52)) rfl rfl (zFits_rm d n n n (Nat.le_refl n)) (Nat.le_of_ble_eq_true rfl) rfl k3 h8 ?_
    rintro _ σ10 k11 ⟨v9, rfl, h12, h13⟩
    change Zm _ _ _ _ _ _ 23 _ [iV v9] _
    refine r_istore_n dX10_saves_23 rfl rfl ?_
    refine r_iload_n dX10_saves_24 rfl ?_
    refine r_iconst dX10_saves_25 ?_
    refine r_icmp_ge (t := 49) dX10_saves_26 rfl h12 (r32c rfl) (fun c14 => ?_) (fun c15 => ?_)
    · have h16 := h13.1 c14
      refine r_iconst dX10_saves_49 ?_
      refine r_goto (t := 54) dX10_saves_50 rfl ?_
      refine r_istore dX10_saves_54 rfl rfl ?_
      refine r_aload_n dX10_saves_56 rfl ?_
      refine n_callV (N := M_X10_pops) (As := []) (st := []) dX10_saves_57 mk_X10_pops km_RX10_315 kd_X10_pops rfl (zlt hn rfl) sh_73 (q := (RX10, TX10, 52)) rfl rfl (zFits_rm d n n n (Nat.le_refl n)) (Nat.le_of_ble_eq_true rfl) rfl k11 h16 ?_
      rintro _ σ18 k19 ⟨rfl, h21⟩
      change Zm _ _ _ _ _ _ 60 _ [] _
      refine r_aload_n dX10_saves_60 rfl ?_
      refine n_callV (N := M_X10_mine) (As := []) (st := []) dX10_saves_61 mk_X10_mine km_RX10_339 kd_X10_mine rfl (zlt hn rfl) sh_73 (q := (RX10, TX10, 52)) rfl rfl (zFits_rm d n n n (Nat.le_refl n)) (Nat.le_of_ble_eq_true rfl) rfl k19 h21 ?_
      rintro _ σ23 k24 ⟨rfl, h26⟩
      change Zm _ _ _ _ _ _ 64 _ [] _
      refine r_iload dX10_saves_64 rfl ?_
      exact r_zreturn dX10_saves_66 rfl (Or.inr rfl) ⟨k24, _, rfl, (Or.inr rfl), h26⟩
    · have h27 := h13.2 c15
      refine r_iload_n dX10_saves_29 rfl ?_
      refine r_iconst dX10_saves_30 ?_
      refine r_icmp_ne (t := 53) dX10_saves_31 rfl h12 (r32c rfl) (fun c28 => ?_) (fun c29 => ?_)
      · have h30 := h27.1 c28
        refine r_iconst dX10_saves_53 ?_
        refine r_istore dX10_saves_54 rfl rfl ?_
        refine r_aload_n dX10_saves_56 rfl ?_
        refine n_callV (N := M_X10_pops) (As := []) (st := []) dX10_saves_57 mk_X10_pops km_RX10_315 kd_X10_pops rfl (zlt hn rfl) sh_73 (q := (RX10, TX10, 52)) rfl rfl (zFits_rm d n n n (Nat.le_refl n)) (Nat.le_of_ble_eq_true rfl) rfl k11 h30 ?_
        rintro _ σ32 k33 ⟨rfl, h35⟩
        change Zm _ _ _ _ _ _ 60 _ [] _
        refine r_aload_n dX10_saves_60 rfl ?_
        refine n_callV (N := M_X10_mine) (As := []) (st := []) dX10_saves_61 mk_X10_mine km_RX10_339 kd_X10_mine rfl (zlt hn rfl) sh_73 (q := (RX10, TX10, 52)) rfl rfl (zFits_rm d n n n (Nat.le_refl n)) (Nat.le_of_ble_eq_true rfl) rfl k33 h35 ?_
        rintro _ σ37 k38 ⟨rfl, h40⟩
        change Zm _ _ _ _ _ _ 64 _ [] _
        refine r_iload dX10_saves_64 rfl ?_
        exact r_zreturn dX10_saves_66 rfl (Or.inl rfl) ⟨k38, _, rfl, (Or.inl rfl), h40⟩
      · have h41 := h27.2 c29
        refine r_aload_n dX10_saves_34 rfl ?_
        refine r_iload_n dX10_saves_35 rfl ?_
        refine n_callV (N := M_X10_takesChain) (As := [iV x2]) (st := []) dX10_saves_36 mk_X10_takesChain km_RX10_342 kd_X10_takesChain rfl (zlt hn rfl) sh_73 (q := (RX10, TX10, 52)) rfl rfl (zFits_rm d n n n (Nat.le_refl n)) (Nat.le_of_ble_eq_true rfl) rfl k11 h41 ?_
        rintro _ σ43 k44 ⟨v42, rfl, h45, h46⟩
        change Zm _ _ _ _ _ _ 39 _ [iV v42] _
        refine r_if_ne (t := 53) dX10_saves_39 rfl (r32_z h45)  (fun c47 => ?_) (fun c48 => ?_)
        · have h49 := h46.1 c47
          refine r_iconst dX10_saves_53 ?_
          refine r_istore dX10_saves_54 rfl rfl ?_
          refine r_aload_n dX10_saves_56 rfl ?_
          refine n_callV (N := M_X10_pops) (As := []) (st := []) dX10_saves_57 mk_X10_pops km_RX10_315 kd_X10_pops rfl (zlt hn rfl) sh_73 (q := (RX10, TX10, 52)) rfl rfl (zFits_rm d n n n (Nat.le_refl n)) (Nat.le_of_ble_eq_true rfl) rfl k44 h49 ?_
          rintro _ σ51 k52 ⟨rfl, h54⟩
          change Zm _ _ _ _ _ _ 60 _ [] _
          refine r_aload_n dX10_saves_60 rfl ?_
          refine n_callV (N := M_X10_mine) (As := []) (st := []) dX10_saves_61 mk_X10_mine km_RX10_339 kd_X10_mine rfl (zlt hn rfl) sh_73 (q := (RX10, TX10, 52)) rfl rfl (zFits_rm d n n n (Nat.le_refl n)) (Nat.le_of_ble_eq_true rfl) rfl k52 h54 ?_
          rintro _ σ56 k57 ⟨rfl, h59⟩
          change Zm _ _ _ _ _ _ 64 _ [] _
          refine r_iload dX10_saves_64 rfl ?_
          exact r_zreturn dX10_saves_66 rfl (Or.inl rfl) ⟨k57, _, rfl, (Or.inl rfl), h59⟩
        · have h60 := h46.2 c48
          refine r_aload_n dX10_saves_42 rfl ?_
          refine r_getI dX10_saves_43 kf_RX10_305 (zlt hn rfl) sh_73 (Or.inr rfl) rfl ?_
          refine r_if_ne (t := 53) dX10_saves_46 rfl (k44.2.1 _ _)  (fun c61 => ?_) (fun c62 => ?_)
          · have h63 := h60.1 c61
            refine r_iconst dX10_saves_53 ?_
            refine r_istore dX10_saves_54 rfl rfl ?_
            refine r_aload_n dX10_saves_56 rfl ?_
            refine n_callV (N := M_X10_pops) (As := []) (st := []) dX10_saves_57 mk_X10_pops km_RX10_315 kd_X10_pops rfl (zlt hn rfl) sh_73 (q := (RX10, TX10, 52)) rfl rfl (zFits_rm d n n n (Nat.le_refl n)) (Nat.le_of_ble_eq_true rfl) rfl k44 h63 ?_
            rintro _ σ65 k66 ⟨rfl, h68⟩
            change Zm _ _ _ _ _ _ 60 _ [] _
            refine r_aload_n dX10_saves_60 rfl ?_
            refine n_callV (N := M_X10_mine) (As := []) (st := []) dX10_saves_61 mk_X10_mine km_RX10_339 kd_X10_mine rfl (zlt hn rfl) sh_73 (q := (RX10, TX10, 52)) rfl rfl (zFits_rm d n n n (Nat.le_refl n)) (Nat.le_of_ble_eq_true rfl) rfl k66 h68 ?_
            rintro _ σ70 k71 ⟨rfl, h73⟩
            change Zm _ _ _ _ _ _ 64 _ [] _
            refine r_iload dX10_saves_64 rfl ?_
            exact r_zreturn dX10_saves_66 rfl (Or.inl rfl) ⟨k71, _, rfl, (Or.inl rfl), h73⟩
          · have h74 := h60.2 c62
            refine r_iconst dX10_saves_49 ?_
            refine r_goto (t := 54) dX10_saves_50 rfl ?_
            refine r_istore dX10_saves_54 rfl rfl ?_
            refine r_aload_n dX10_saves_56 rfl ?_
            refine n_callV (N := M_X10_pops) (As := []) (st := []) dX10_saves_57 mk_X10_pops km_RX10_315 kd_X10_pops rfl (zlt hn rfl) sh_73 (q := (RX10, TX10, 52)) rfl rfl (zFits_rm d n n n (Nat.le_refl n)) (Nat.le_of_ble_eq_true rfl) rfl k44 h74 ?_
            rintro _ σ76 k77 ⟨rfl, h79⟩
            change Zm _ _ _ _ _ _ 60 _ [] _
            refine r_aload_n dX10_saves_60 rfl ?_
            refine n_callV (N := M_X10_mine) (As := []) (st := []) dX10_saves_61 mk_X10_mine km_RX10_339 kd_X10_mine rfl (zlt hn rfl) sh_73 (q := (RX10, TX10, 52)) rfl rfl (zFits_rm d n n n (Nat.le_refl n)) (Nat.le_of_ble_eq_true rfl) rfl k77 h79 ?_
            rintro _ σ81 k82 ⟨rfl, h84⟩
            change Zm _ _ _ _ _ _ 64 _ [] _
            refine r_iload dX10_saves_64 rfl ?_
            exact r_zreturn dX10_saves_66 rfl (Or.inr rfl) ⟨k82, _, rfl, (Or.inr rfl), h84⟩
  · have h85 := h5.2 c7
    refine r_aload_n dX10_saves_9 rfl ?_
    refine n_callV (N := M_X10_mine) (As := []) (st := []) dX10_saves_10 mk_X10_mine km_RX10_339 kd_X10_mine rfl (zlt hn rfl) sh_73 (q := (RX10, TX10, 52)) rfl rfl (zFits_rm d n n n (Nat.le_refl n)) (Nat.le_of_ble_eq_true rfl) rfl k3 h85 ?_
    rintro _ σ87 k88 ⟨rfl, h90⟩
    change Zm _ _ _ _ _ _ 13 _ [] _
    refine r_iconst dX10_saves_13 ?_
    exact r_zreturn dX10_saves_14 rfl (Or.inl rfl) ⟨k88, _, rfl, (Or.inl rfl), h90⟩
/-! StoneRoomModel.ladder -/
theorem dX10_ladder_0 : decode M_X10_ladder.2.1 0 = .ok (.aload_n 0, 1) := by decide +kernel
theorem dX10_ladder_1 : decode M_X10_ladder.2.1 1 = .ok (.iload_n 1, 1) := by decide +kernel
theorem dX10_ladder_2 : decode M_X10_ladder.2.1 2 = .ok (.invokevirtual 281, 3) := by decide +kernel
theorem dX10_ladder_5 : decode M_X10_ladder.2.1 5 = .ok (.ifCond .eq 12, 3) := by decide +kernel
theorem dX10_ladder_8 : decode M_X10_ladder.2.1 8 = .ok (.aload_n 0, 1) := by decide +kernel
theorem dX10_ladder_9 : decode M_X10_ladder.2.1 9 = .ok (.iload_n 1, 1) := by decide +kernel
theorem dX10_ladder_10 : decode M_X10_ladder.2.1 10 = .ok (.invokevirtual 148, 3) := by decide +kernel
theorem dX10_ladder_13 : decode M_X10_ladder.2.1 13 = .ok (.iconst 2, 1) := by decide +kernel
theorem dX10_ladder_14 : decode M_X10_ladder.2.1 14 = .ok (.if_icmp .le 5, 3) := by decide +kernel
theorem dX10_ladder_17 : decode M_X10_ladder.2.1 17 = .ok (.iconst (-1), 1) := by decide +kernel
theorem dX10_ladder_18 : decode M_X10_ladder.2.1 18 = .ok (.ireturn, 1) := by decide +kernel
theorem dX10_ladder_19 : decode M_X10_ladder.2.1 19 = .ok (.aload_n 0, 1) := by decide +kernel
theorem dX10_ladder_20 : decode M_X10_ladder.2.1 20 = .ok (.iload_n 1, 1) := by decide +kernel
theorem dX10_ladder_21 : decode M_X10_ladder.2.1 21 = .ok (.putfield 318, 3) := by decide +kernel
theorem dX10_ladder_24 : decode M_X10_ladder.2.1 24 = .ok (.aload_n 0, 1) := by decide +kernel
theorem dX10_ladder_25 : decode M_X10_ladder.2.1 25 = .ok (.iconst 0, 1) := by decide +kernel
theorem dX10_ladder_26 : decode M_X10_ladder.2.1 26 = .ok (.putfield 299, 3) := by decide +kernel
theorem dX10_ladder_29 : decode M_X10_ladder.2.1 29 = .ok (.aload_n 0, 1) := by decide +kernel
theorem dX10_ladder_30 : decode M_X10_ladder.2.1 30 = .ok (.iconst 0, 1) := by decide +kernel
theorem dX10_ladder_31 : decode M_X10_ladder.2.1 31 = .ok (.putfield 302, 3) := by decide +kernel
theorem dX10_ladder_34 : decode M_X10_ladder.2.1 34 = .ok (.aload_n 0, 1) := by decide +kernel
theorem dX10_ladder_35 : decode M_X10_ladder.2.1 35 = .ok (.iconst 0, 1) := by decide +kernel
theorem dX10_ladder_36 : decode M_X10_ladder.2.1 36 = .ok (.putfield 305, 3) := by decide +kernel
theorem dX10_ladder_39 : decode M_X10_ladder.2.1 39 = .ok (.aload_n 0, 1) := by decide +kernel
theorem dX10_ladder_40 : decode M_X10_ladder.2.1 40 = .ok (.iconst (-1), 1) := by decide +kernel
theorem dX10_ladder_41 : decode M_X10_ladder.2.1 41 = .ok (.putfield 96, 3) := by decide +kernel
theorem dX10_ladder_44 : decode M_X10_ladder.2.1 44 = .ok (.aload_n 0, 1) := by decide +kernel
theorem dX10_ladder_45 : decode M_X10_ladder.2.1 45 = .ok (.getfield 46, 3) := by decide +kernel
theorem dX10_ladder_48 : decode M_X10_ladder.2.1 48 = .ok (.iload_n 1, 1) := by decide +kernel
theorem dX10_ladder_49 : decode M_X10_ladder.2.1 49 = .ok (.baload, 1) := by decide +kernel
theorem dX10_ladder_50 : decode M_X10_ladder.2.1 50 = .ok (.istore_n 2, 1) := by decide +kernel
theorem dX10_ladder_51 : decode M_X10_ladder.2.1 51 = .ok (.aload_n 0, 1) := by decide +kernel
theorem dX10_ladder_52 : decode M_X10_ladder.2.1 52 = .ok (.iconst (-1), 1) := by decide +kernel
theorem dX10_ladder_53 : decode M_X10_ladder.2.1 53 = .ok (.invokevirtual 321, 3) := by decide +kernel
theorem dX10_ladder_56 : decode M_X10_ladder.2.1 56 = .ok (.istore_n 3, 1) := by decide +kernel
theorem dX10_ladder_57 : decode M_X10_ladder.2.1 57 = .ok (.aload_n 0, 1) := by decide +kernel
theorem dX10_ladder_58 : decode M_X10_ladder.2.1 58 = .ok (.iload_n 1, 1) := by decide +kernel
theorem dX10_ladder_59 : decode M_X10_ladder.2.1 59 = .ok (.invokevirtual 148, 3) := by decide +kernel
theorem dX10_ladder_62 : decode M_X10_ladder.2.1 62 = .ok (.istore 4, 2) := by decide +kernel
theorem dX10_ladder_64 : decode M_X10_ladder.2.1 64 = .ok (.aload_n 0, 1) := by decide +kernel
theorem dX10_ladder_65 : decode M_X10_ladder.2.1 65 = .ok (.iload_n 2, 1) := by decide +kernel
theorem dX10_ladder_66 : decode M_X10_ladder.2.1 66 = .ok (.invokevirtual 342, 3) := by decide +kernel
theorem dX10_ladder_69 : decode M_X10_ladder.2.1 69 = .ok (.istore 5, 2) := by decide +kernel
theorem dX10_ladder_71 : decode M_X10_ladder.2.1 71 = .ok (.aload_n 0, 1) := by decide +kernel
theorem dX10_ladder_72 : decode M_X10_ladder.2.1 72 = .ok (.aload_n 0, 1) := by decide +kernel
theorem dX10_ladder_73 : decode M_X10_ladder.2.1 73 = .ok (.getfield 302, 3) := by decide +kernel
theorem dX10_ladder_76 : decode M_X10_ladder.2.1 76 = .ok (.putfield 93, 3) := by decide +kernel
theorem dX10_ladder_79 : decode M_X10_ladder.2.1 79 = .ok (.iload 4, 2) := by decide +kernel
theorem dX10_ladder_81 : decode M_X10_ladder.2.1 81 = .ok (.iconst 1, 1) := by decide +kernel
theorem dX10_ladder_82 : decode M_X10_ladder.2.1 82 = .ok (.if_icmp .ne 8, 3) := by decide +kernel
theorem dX10_ladder_85 : decode M_X10_ladder.2.1 85 = .ok (.aload_n 0, 1) := by decide +kernel
theorem dX10_ladder_86 : decode M_X10_ladder.2.1 86 = .ok (.iload_n 3, 1) := by decide +kernel
theorem dX10_ladder_87 : decode M_X10_ladder.2.1 87 = .ok (.putfield 96, 3) := by decide +kernel
theorem dX10_ladder_90 : decode M_X10_ladder.2.1 90 = .ok (.aload_n 0, 1) := by decide +kernel
theorem dX10_ladder_91 : decode M_X10_ladder.2.1 91 = .ok (.getfield 305, 3) := by decide +kernel
theorem dX10_ladder_94 : decode M_X10_ladder.2.1 94 = .ok (.ifCond .ne 8, 3) := by decide +kernel
theorem dX10_ladder_97 : decode M_X10_ladder.2.1 97 = .ok (.iload 5, 2) := by decide +kernel
theorem dX10_ladder_99 : decode M_X10_ladder.2.1 99 = .ok (.ifCond .ne 8, 3) := by decide +kernel
theorem dX10_ladder_102 : decode M_X10_ladder.2.1 102 = .ok (.aload_n 0, 1) := by decide +kernel
theorem dX10_ladder_103 : decode M_X10_ladder.2.1 103 = .ok (.iconst (-1), 1) := by decide +kernel
theorem dX10_ladder_104 : decode M_X10_ladder.2.1 104 = .ok (.putfield 96, 3) := by decide +kernel
theorem dX10_ladder_107 : decode M_X10_ladder.2.1 107 = .ok (.aload_n 0, 1) := by decide +kernel
theorem dX10_ladder_108 : decode M_X10_ladder.2.1 108 = .ok (.getfield 305, 3) := by decide +kernel
theorem dX10_ladder_111 : decode M_X10_ladder.2.1 111 = .ok (.ifCond .eq 7, 3) := by decide +kernel
theorem dX10_ladder_114 : decode M_X10_ladder.2.1 114 = .ok (.iconst 2, 1) := by decide +kernel
theorem dX10_ladder_115 : decode M_X10_ladder.2.1 115 = .ok (.goto 13, 3) := by decide +kernel
theorem dX10_ladder_118 : decode M_X10_ladder.2.1 118 = .ok (.iload 5, 2) := by decide +kernel
theorem dX10_ladder_120 : decode M_X10_ladder.2.1 120 = .ok (.ifCond .eq 7, 3) := by decide +kernel
theorem dX10_ladder_123 : decode M_X10_ladder.2.1 123 = .ok (.iconst 1, 1) := by decide +kernel
theorem dX10_ladder_124 : decode M_X10_ladder.2.1 124 = .ok (.goto 4, 3) := by decide +kernel
theorem dX10_ladder_127 : decode M_X10_ladder.2.1 127 = .ok (.iconst 0, 1) := by decide +kernel
theorem dX10_ladder_128 : decode M_X10_ladder.2.1 128 = .ok (.ireturn, 1) := by decide +kernel
def L_X10_ladder_90 (X : ZX) (d n : Nat) (P : Option Value → ZSto → Prop) (x5 : Int) (σ : ZSto) : Prop := R32 x5 → ZOk n σ → Zn X M_X10_ladder d n P 90 [some (.ref (zB X + 73)), none, none, none, none, some (iV x5)] [] σ
theorem w_X10_ladder {X : ZX} {d n : Nat} {P : Int → ZSto → Prop} {x1 : Int} {σ : ZSto} (hn : 104 ≤ n)  (hx1 : R32 x1)
    (h : ZkZ X M_X10_isStone d n [.ref (zB X + 73), iV x1] σ (fun v1 σ2 => (v1 = 0 → P ((-1)) σ2) ∧ (¬ (v1 = 0) → ZkI X M_X10_flood d n [.ref (zB X + 73), iV x1] σ2 (fun v10 σ11 => (v10 ≤ 2 → (0 ≤ x1 ∧ x1 < 81) ∧ (∀ y25 : Int, y25 = gI σ11 84 x1.toNat → ZkI X M_X10_freeBehind d n [.ref (zB X + 73), iV ((-1))] (sI (sI (sI (sI (sI σ11 73 44 x1) 73 39 0) 73 40 0) 73 43 0) 73 42 ((-1))) (fun v28 σ29 => ZkI X M_X10_flood d n [.ref (zB X + 73), iV x1] σ29 (fun v33 σ34 => ZkZ X M_X10_takesChain d n [.ref (zB X + 73), iV y25] σ34 (fun v38 σ39 => (¬ v33 = 1 → L_X10_ladder_90 X d n (zpI P) v38 (sI σ39 73 41 (gI σ39 73 40))) ∧ (v33 = 1 → L_X10_ladder_90 X d n (zpI P) v38 (sI (sI σ39 73 41 (gI σ39 73 40)) 73 42 v28))))))) ∧ (¬ (v10 ≤ 2) → P ((-1)) σ11))))) :
    ZkI X M_X10_ladder (d + 1) n [.ref (zB X + 73), iV x1] σ P := by
  refine zk_of (ls := [some (.ref (zB X + 73)), some (iV x1), none, none, none, none]) pl_RX10 (Nat.le_of_ble_eq_true rfl) rfl (fun k0 => ?_)
  unfold Zn
  refine r_aload_n dX10_ladder_0 rfl ?_
  refine r_iload_n dX10_ladder_1 rfl ?_
  refine n_callV (N := M_X10_isStone) (As := [iV x1]) (st := []) dX10_ladder_2 mk_X10_isStone km_RX10_281 kd_X10_isStone rfl (zlt hn rfl) sh_73 (q := (RX10, TX10, 52)) rfl rfl (zFits_rm d n n n (Nat.le_refl n)) (Nat.le_of_ble_eq_true rfl) rfl k0 h ?_
  rintro _ σ2 k3 ⟨v1, rfl, h4, h5⟩
  change Zm _ _ _ _ _ _ 5 _ [iV v1] _
  refine r_if_eq (t := 17) dX10_ladder_5 rfl (r32_z h4)  (fun c6 => ?_) (fun c7 => ?_)
  · have h8 := h5.1 c6
    refine r_iconst dX10_ladder_17 ?_
    exact r_ireturn dX10_ladder_18 rfl ⟨k3, _, rfl, (r32c rfl), h8⟩
  · have h9 := h5.2 c7
    refine r_aload_n dX10_ladder_8 rfl ?_
    refine r_iload_n dX10_ladder_9 rfl ?_
    refine n_callV (N := M_X10_flood) (As := [iV x1]) (st := []) dX10_ladder_10 mk_X10_flood km_RX10_148 kd_X10_flood rfl (zlt hn rfl) sh_73 (q := (RX10, TX10, 52)) rfl rfl (zFits_rm d n n n (Nat.le_refl n)) (Nat.le_of_ble_eq_true rfl) rfl k3 h9 ?_
    rintro _ σ11 k12 ⟨v10, rfl, h13, h14⟩
    change Zm _ _ _ _ _ _ 13 _ [iV v10] _
    refine r_iconst dX10_ladder_13 ?_
    refine r_icmp_le (t := 19) dX10_ladder_14 rfl h13 (r32c rfl) (fun c15 => ?_) (fun c16 => ?_)
    · have h17 := h14.1 c15
      refine r_aload_n dX10_ladder_19 rfl ?_
      refine r_iload_n dX10_ladder_20 rfl ?_
      refine r_putI dX10_ladder_21 kf_RX10_318 (zlt hn rfl) sh_73 rfl (Or.inl rfl) ?_
      have k18 := zok_o (i := 44) (x := x1) k12 sh_73 hx1
      refine r_aload_n dX10_ladder_24 rfl ?_
      refine r_iconst dX10_ladder_25 ?_
      refine r_putI dX10_ladder_26 kf_RX10_299 (zlt hn rfl) sh_73 rfl (Or.inl rfl) ?_
      have k19 := zok_o (i := 39) (x := 0) k18 sh_73 (r32c rfl)
      refine r_aload_n dX10_ladder_29 rfl ?_
      refine r_iconst dX10_ladder_30 ?_
      refine r_putI dX10_ladder_31 kf_RX10_302 (zlt hn rfl) sh_73 rfl (Or.inl rfl) ?_
      have k20 := zok_o (i := 40) (x := 0) k19 sh_73 (r32c rfl)
      refine r_aload_n dX10_ladder_34 rfl ?_
      refine r_iconst dX10_ladder_35 ?_
      refine r_putI dX10_ladder_36 kf_RX10_305 (zlt hn rfl) sh_73 rfl (Or.inr ⟨rfl, (Or.inl rfl)⟩) ?_
      have k21 := zok_o (i := 43) (x := 0) k20 sh_73 (r32c rfl)
      refine r_aload_n dX10_ladder_39 rfl ?_
      refine r_iconst dX10_ladder_40 ?_
      refine r_putI dX10_ladder_41 kf_RX10_96 (zlt hn rfl) sh_73 rfl (Or.inl rfl) ?_
      have k22 := zok_o (i := 42) (x := (-1)) k21 sh_73 (r32c rfl)
      refine r_aload_n dX10_ladder_44 rfl ?_
      refine r_getP (a := 84) dX10_ladder_45 kf_RX10_46 (zlt hn rfl) sh_73 rfl (k22.1 _ _ _ (zlt hn rfl) p_73_14) ?_
      refine r_iload_n dX10_ladder_48 rfl ?_
      obtain ⟨h23, h24⟩ := h17
      refine r_baloadE dX10_ladder_49 (zlt hn rfl) sh_84 h23.1 h23.2 ((gI_c (by decide)).trans ((gI_c (by decide)).trans ((gI_c (by decide)).trans ((gI_c (by decide)).trans (gI_c (by decide)))))) ?_
      refine r_name (fun y25 e26 => ?_)
      have h27 := h24 y25 e26
      refine r_istore_n dX10_ladder_50 rfl rfl ?_
      refine r_aload_n dX10_ladder_51 rfl ?_
      refine r_iconst dX10_ladder_52 ?_
      refine n_callV (N := M_X10_freeBehind) (As := [iV ((-1))]) (st := []) dX10_ladder_53 mk_X10_freeBehind km_RX10_321 kd_X10_freeBehind rfl (zlt hn rfl) sh_73 (q := (RX10, TX10, 52)) rfl rfl (zFits_rm d n n n (Nat.le_refl n)) (Nat.le_of_ble_eq_true rfl) rfl k22 h27 ?_
      rintro _ σ29 k30 ⟨v28, rfl, h31, h32⟩
      change Zm _ _ _ _ _ _ 56 _ [iV v28] _
      refine r_istore_n dX10_ladder_56 rfl rfl ?_
      refine r_aload_n dX10_ladder_57 rfl ?_
      refine r_iload_n dX10_ladder_58 rfl ?_
      refine n_callV (N := M_X10_flood) (As := [iV x1]) (st := []) dX10_ladder_59 mk_X10_flood km_RX10_148 kd_X10_flood rfl (zlt hn rfl) sh_73 (q := (RX10, TX10, 52)) rfl rfl (zFits_rm d n n n (Nat.le_refl n)) (Nat.le_of_ble_eq_true rfl) rfl k30 h32 ?_
      rintro _ σ34 k35 ⟨v33, rfl, h36, h37⟩
      change Zm _ _ _ _ _ _ 62 _ [iV v33] _
      refine r_istore dX10_ladder_62 rfl rfl ?_
      refine r_aload_n dX10_ladder_64 rfl ?_
      refine r_iload_n dX10_ladder_65 rfl ?_
      refine n_callV (N := M_X10_takesChain) (As := [iV y25]) (st := []) dX10_ladder_66 mk_X10_takesChain km_RX10_342 kd_X10_takesChain rfl (zlt hn rfl) sh_73 (q := (RX10, TX10, 52)) rfl rfl (zFits_rm d n n n (Nat.le_refl n)) (Nat.le_of_ble_eq_true rfl) rfl k35 h37 ?_
      rintro _ σ39 k40 ⟨v38, rfl, h41, h42⟩
      change Zm _ _ _ _ _ _ 69 _ [iV v38] _
      refine r_istore dX10_ladder_69 rfl rfl ?_
      refine r_aload_n dX10_ladder_71 rfl ?_
      refine r_aload_n dX10_ladder_72 rfl ?_
      refine r_getI dX10_ladder_73 kf_RX10_302 (zlt hn rfl) sh_73 (Or.inl rfl) rfl ?_
      refine r_putI dX10_ladder_76 kf_RX10_93 (zlt hn rfl) sh_73 rfl (Or.inl rfl) ?_
      have k43 := zok_o (i := 41) (x := gI σ39 73 40) k40 sh_73 (k40.2.1 _ _)
      refine r_iload dX10_ladder_79 rfl ?_
      refine r_iconst dX10_ladder_81 ?_
      refine r_icmp_ne (t := 90) dX10_ladder_82 rfl h36 (r32c rfl) (fun c44 => ?_) (fun c45 => ?_)
      · have h46 := h42.1 c44
        exact r_mask [true, false, false, false, false, true] rfl (h46 (r32_z h41) k43)
      · have h47 := h42.2 c45
        refine r_aload_n dX10_ladder_85 rfl ?_
        refine r_iload_n dX10_ladder_86 rfl ?_
        refine r_putI dX10_ladder_87 kf_RX10_96 (zlt hn rfl) sh_73 rfl (Or.inl rfl) ?_
        have k48 := zok_o (i := 42) (x := v28) k43 sh_73 h31
        exact r_mask [true, false, false, false, false, true] rfl (h47 (r32_z h41) k48)
    · have h49 := h14.2 c16
      refine r_iconst dX10_ladder_17 ?_
      exact r_ireturn dX10_ladder_18 rfl ⟨k12, _, rfl, (r32c rfl), h49⟩
theorem b_X10_ladder_90 {X : ZX} {d n : Nat} {P : Int → ZSto → Prop} {x5 : Int} {σ : ZSto} (hn : 104 ≤ n) 
    (h : (¬ gI σ 73 43 = 0 → (gI σ 73 43 = 0 → (x5 = 0 → P 0 (sI σ 73 42 ((-1)))) ∧ (¬ (x5 = 0) → P 1 (sI σ 73 42 ((-1))))) ∧ (¬ (gI σ 73 43 = 0) → P 2 (sI σ 73 42 ((-1))))) ∧ (gI σ 73 43 = 0 → (¬ x5 = 0 → (gI σ 73 43 = 0 → (x5 = 0 → P 0 σ) ∧ (¬ (x5 = 0) → P 1 σ)) ∧ (¬ (gI σ 73 43 = 0) → P 2 σ)) ∧ (x5 = 0 → (gI σ 73 43 = 0 → (x5 = 0 → P 0 (sI σ 73 42 ((-1)))) ∧ (¬ (x5 = 0) → P 1 (sI σ 73 42 ((-1))))) ∧ (¬ (gI σ 73 43 = 0) → P 2 (sI σ 73 42 ((-1))))))) :
    L_X10_ladder_90 X d n (zpI P) x5 σ := by
  intro hx5 k0
  unfold Zn
  refine r_aload_n dX10_ladder_90 rfl ?_
  refine r_getI dX10_ladder_91 kf_RX10_305 (zlt hn rfl) sh_73 (Or.inr rfl) rfl ?_
  refine r_if_ne (t := 102) dX10_ladder_94 rfl (k0.2.1 _ _)  (fun c1 => ?_) (fun c2 => ?_)
  · have h3 := h.1 c1
    refine r_aload_n dX10_ladder_102 rfl ?_
    refine r_iconst dX10_ladder_103 ?_
    refine r_putI dX10_ladder_104 kf_RX10_96 (zlt hn rfl) sh_73 rfl (Or.inl rfl) ?_
    have k4 := zok_o (i := 42) (x := (-1)) k0 sh_73 (r32c rfl)
    refine r_aload_n dX10_ladder_107 rfl ?_
    refine r_getI dX10_ladder_108 kf_RX10_305 (zlt hn rfl) sh_73 (Or.inr rfl) (gI_f (by decide)) ?_
    refine r_if_eq (t := 118) dX10_ladder_111 rfl (k0.2.1 _ _)  (fun c5 => ?_) (fun c6 => ?_)
    · have h7 := h3.1 c5
      refine r_iload dX10_ladder_118 rfl ?_
      refine r_if_eq (t := 127) dX10_ladder_120 rfl hx5  (fun c8 => ?_) (fun c9 => ?_)
      · have h10 := h7.1 c8
        refine r_iconst dX10_ladder_127 ?_
        exact r_ireturn dX10_ladder_128 rfl ⟨k4, _, rfl, (r32c rfl), h10⟩
      · have h11 := h7.2 c9
        refine r_iconst dX10_ladder_123 ?_
        refine r_goto (t := 128) dX10_ladder_124 rfl ?_
        exact r_ireturn dX10_ladder_128 rfl ⟨k4, _, rfl, (r32c rfl), h11⟩
    · have h12 := h3.2 c6
      refine r_iconst dX10_ladder_114 ?_
      refine r_goto (t := 128) dX10_ladder_115 rfl ?_
      exact r_ireturn dX10_ladder_128 rfl ⟨k4, _, rfl, (r32c rfl), h12⟩
  · have h13 := h.2 c2
    refine r_iload dX10_ladder_97 rfl ?_
    refine r_if_ne (t := 107) dX10_ladder_99 rfl hx5  (fun c14 => ?_) (fun c15 => ?_)
    · have h16 := h13.1 c14
      refine r_aload_n dX10_ladder_107 rfl ?_
      refine r_getI dX10_ladder_108 kf_RX10_305 (zlt hn rfl) sh_73 (Or.inr rfl) rfl ?_
      refine r_if_eq (t := 118) dX10_ladder_111 rfl (k0.2.1 _ _)  (fun c17 => ?_) (fun c18 => ?_)
      · have h19 := h16.1 c17
        refine r_iload dX10_ladder_118 rfl ?_
        refine r_if_eq (t := 127) dX10_ladder_120 rfl hx5  (fun c20 => ?_) (fun c21 => ?_)
        · have h22 := h19.1 c20
          refine r_iconst dX10_ladder_127 ?_
          exact r_ireturn dX10_ladder_128 rfl ⟨k0, _, rfl, (r32c rfl), h22⟩
        · have h23 := h19.2 c21
          refine r_iconst dX10_ladder_123 ?_
          refine r_goto (t := 128) dX10_ladder_124 rfl ?_
          exact r_ireturn dX10_ladder_128 rfl ⟨k0, _, rfl, (r32c rfl), h23⟩
      · have h24 := h16.2 c18
        refine r_iconst dX10_ladder_114 ?_
        refine r_goto (t := 128) dX10_ladder_115 rfl ?_
        exact r_ireturn dX10_ladder_128 rfl ⟨k0, _, rfl, (r32c rfl), h24⟩
    · have h25 := h13.2 c15
      refine r_aload_n dX10_ladder_102 rfl ?_
      refine r_iconst dX10_ladder_103 ?_
      refine r_putI dX10_ladder_104 kf_RX10_96 (zlt hn rfl) sh_73 rfl (Or.inl rfl) ?_
      have k26 := zok_o (i := 42) (x := (-1)) k0 sh_73 (r32c rfl)
      refine r_aload_n dX10_ladder_107 rfl ?_
      refine r_getI dX10_ladder_108 kf_RX10_305 (zlt hn rfl) sh_73 (Or.inr rfl) (gI_f (by decide)) ?_
      refine r_if_eq (t := 118) dX10_ladder_111 rfl (k0.2.1 _ _)  (fun c27 => ?_) (fun c28 => ?_)
      · have h29 := h25.1 c27
        refine r_iload dX10_ladder_118 rfl ?_
        refine r_if_eq (t := 127) dX10_ladder_120 rfl hx5  (fun c30 => ?_) (fun c31 => ?_)
        · have h32 := h29.1 c30
          refine r_iconst dX10_ladder_127 ?_
          exact r_ireturn dX10_ladder_128 rfl ⟨k26, _, rfl, (r32c rfl), h32⟩
        · have h33 := h29.2 c31
          refine r_iconst dX10_ladder_123 ?_
          refine r_goto (t := 128) dX10_ladder_124 rfl ?_
          exact r_ireturn dX10_ladder_128 rfl ⟨k26, _, rfl, (r32c rfl), h33⟩
      · have h34 := h25.2 c28
        refine r_iconst dX10_ladder_114 ?_
        refine r_goto (t := 128) dX10_ladder_115 rfl ?_
        exact r_ireturn dX10_ladder_128 rfl ⟨k26, _, rfl, (r32c rfl), h34⟩
/-! StoneRoomModel.steps -/
theorem dX10_steps_0 : decode M_X10_steps.2.1 0 = .ok (.aload_n 0, 1) := by decide +kernel
theorem dX10_steps_1 : decode M_X10_steps.2.1 1 = .ok (.getfield 93, 3) := by decide +kernel
theorem dX10_steps_4 : decode M_X10_steps.2.1 4 = .ok (.ifCond .ge 7, 3) := by decide +kernel
theorem dX10_steps_7 : decode M_X10_steps.2.1 7 = .ok (.iconst (-1), 1) := by decide +kernel
theorem dX10_steps_8 : decode M_X10_steps.2.1 8 = .ok (.goto 27, 3) := by decide +kernel
theorem dX10_steps_11 : decode M_X10_steps.2.1 11 = .ok (.iload_n 1, 1) := by decide +kernel
theorem dX10_steps_12 : decode M_X10_steps.2.1 12 = .ok (.ifCond .ne 10, 3) := by decide +kernel
theorem dX10_steps_15 : decode M_X10_steps.2.1 15 = .ok (.aload_n 0, 1) := by decide +kernel
theorem dX10_steps_16 : decode M_X10_steps.2.1 16 = .ok (.getfield 93, 3) := by decide +kernel
theorem dX10_steps_19 : decode M_X10_steps.2.1 19 = .ok (.goto 16, 3) := by decide +kernel
theorem dX10_steps_22 : decode M_X10_steps.2.1 22 = .ok (.iload_n 1, 1) := by decide +kernel
theorem dX10_steps_23 : decode M_X10_steps.2.1 23 = .ok (.iconst 1, 1) := by decide +kernel
theorem dX10_steps_24 : decode M_X10_steps.2.1 24 = .ok (.if_icmp .ne 10, 3) := by decide +kernel
theorem dX10_steps_27 : decode M_X10_steps.2.1 27 = .ok (.aload_n 0, 1) := by decide +kernel
theorem dX10_steps_28 : decode M_X10_steps.2.1 28 = .ok (.getfield 96, 3) := by decide +kernel
theorem dX10_steps_31 : decode M_X10_steps.2.1 31 = .ok (.goto 4, 3) := by decide +kernel
theorem dX10_steps_34 : decode M_X10_steps.2.1 34 = .ok (.iconst (-1), 1) := by decide +kernel
theorem dX10_steps_35 : decode M_X10_steps.2.1 35 = .ok (.ireturn, 1) := by decide +kernel
theorem w_X10_steps {X : ZX} {d n : Nat} {P : Int → ZSto → Prop} {x1 : Int} {σ : ZSto} (hn : 104 ≤ n)  (hx1 : R32 x1)
    (h : (0 ≤ gI σ 73 41 → (¬ x1 = 0 → (¬ x1 = 1 → P ((-1)) σ) ∧ (x1 = 1 → P (gI σ 73 42) σ)) ∧ (x1 = 0 → P (gI σ 73 41) σ)) ∧ (¬ (0 ≤ gI σ 73 41) → P ((-1)) σ)) :
    ZkI X M_X10_steps (d + 1) n [.ref (zB X + 73), iV x1] σ P := by
  refine zk_of (ls := [some (.ref (zB X + 73)), some (iV x1)]) pl_RX10 (Nat.le_of_ble_eq_true rfl) rfl (fun k0 => ?_)
  unfold Zn
  refine r_aload_n dX10_steps_0 rfl ?_
  refine r_getI dX10_steps_1 kf_RX10_93 (zlt hn rfl) sh_73 (Or.inl rfl) rfl ?_
  refine r_if_ge (t := 11) dX10_steps_4 rfl (k0.2.1 _ _)  (fun c1 => ?_) (fun c2 => ?_)
  · have h3 := h.1 c1
    refine r_iload_n dX10_steps_11 rfl ?_
    refine r_if_ne (t := 22) dX10_steps_12 rfl hx1  (fun c4 => ?_) (fun c5 => ?_)
    · have h6 := h3.1 c4
      refine r_iload_n dX10_steps_22 rfl ?_
      refine r_iconst dX10_steps_23 ?_
      refine r_icmp_ne (t := 34) dX10_steps_24 rfl hx1 (r32c rfl) (fun c7 => ?_) (fun c8 => ?_)
      · have h9 := h6.1 c7
        refine r_iconst dX10_steps_34 ?_
        exact r_ireturn dX10_steps_35 rfl ⟨k0, _, rfl, (r32c rfl), h9⟩
      · have h10 := h6.2 c8
        refine r_aload_n dX10_steps_27 rfl ?_
        refine r_getI dX10_steps_28 kf_RX10_96 (zlt hn rfl) sh_73 (Or.inl rfl) rfl ?_
        refine r_goto (t := 35) dX10_steps_31 rfl ?_
        exact r_ireturn dX10_steps_35 rfl ⟨k0, _, rfl, (k0.2.1 _ _), h10⟩
    · have h11 := h3.2 c5
      refine r_aload_n dX10_steps_15 rfl ?_
      refine r_getI dX10_steps_16 kf_RX10_93 (zlt hn rfl) sh_73 (Or.inl rfl) rfl ?_
      refine r_goto (t := 35) dX10_steps_19 rfl ?_
      exact r_ireturn dX10_steps_35 rfl ⟨k0, _, rfl, (k0.2.1 _ _), h11⟩
  · have h12 := h.2 c2
    refine r_iconst dX10_steps_7 ?_
    refine r_goto (t := 35) dX10_steps_8 rfl ?_
    exact r_ireturn dX10_steps_35 rfl ⟨k0, _, rfl, (r32c rfl), h12⟩
/-! StoneRoomModel.dead -/
theorem dX10_dead_0 : decode M_X10_dead.2.1 0 = .ok (.aload_n 0, 1) := by decide +kernel
theorem dX10_dead_1 : decode M_X10_dead.2.1 1 = .ok (.iload_n 1, 1) := by decide +kernel
theorem dX10_dead_2 : decode M_X10_dead.2.1 2 = .ok (.invokevirtual 281, 3) := by decide +kernel
theorem dX10_dead_5 : decode M_X10_dead.2.1 5 = .ok (.ifCond .ne 5, 3) := by decide +kernel
theorem dX10_dead_8 : decode M_X10_dead.2.1 8 = .ok (.iconst (-1), 1) := by decide +kernel
theorem dX10_dead_9 : decode M_X10_dead.2.1 9 = .ok (.ireturn, 1) := by decide +kernel
theorem dX10_dead_10 : decode M_X10_dead.2.1 10 = .ok (.aload_n 0, 1) := by decide +kernel
theorem dX10_dead_11 : decode M_X10_dead.2.1 11 = .ok (.iload_n 1, 1) := by decide +kernel
theorem dX10_dead_12 : decode M_X10_dead.2.1 12 = .ok (.invokevirtual 148, 3) := by decide +kernel
theorem dX10_dead_15 : decode M_X10_dead.2.1 15 = .ok (.istore_n 3, 1) := by decide +kernel
theorem dX10_dead_16 : decode M_X10_dead.2.1 16 = .ok (.iconst 0, 1) := by decide +kernel
theorem dX10_dead_17 : decode M_X10_dead.2.1 17 = .ok (.istore 4, 2) := by decide +kernel
theorem dX10_dead_19 : decode M_X10_dead.2.1 19 = .ok (.iload 4, 2) := by decide +kernel
theorem dX10_dead_21 : decode M_X10_dead.2.1 21 = .ok (.aload_n 0, 1) := by decide +kernel
theorem dX10_dead_22 : decode M_X10_dead.2.1 22 = .ok (.getfield 139, 3) := by decide +kernel
theorem dX10_dead_25 : decode M_X10_dead.2.1 25 = .ok (.aload_n 0, 1) := by decide +kernel
theorem dX10_dead_26 : decode M_X10_dead.2.1 26 = .ok (.getfield 139, 3) := by decide +kernel
theorem dX10_dead_29 : decode M_X10_dead.2.1 29 = .ok (.imul, 1) := by decide +kernel
theorem dX10_dead_30 : decode M_X10_dead.2.1 30 = .ok (.if_icmp .ge 27, 3) := by decide +kernel
theorem dX10_dead_33 : decode M_X10_dead.2.1 33 = .ok (.aload_n 0, 1) := by decide +kernel
theorem dX10_dead_34 : decode M_X10_dead.2.1 34 = .ok (.getfield 49, 3) := by decide +kernel
theorem dX10_dead_37 : decode M_X10_dead.2.1 37 = .ok (.iload 4, 2) := by decide +kernel
theorem dX10_dead_39 : decode M_X10_dead.2.1 39 = .ok (.baload, 1) := by decide +kernel
theorem dX10_dead_40 : decode M_X10_dead.2.1 40 = .ok (.ifCond .eq 11, 3) := by decide +kernel
theorem dX10_dead_43 : decode M_X10_dead.2.1 43 = .ok (.aload_n 0, 1) := by decide +kernel
theorem dX10_dead_44 : decode M_X10_dead.2.1 44 = .ok (.getfield 74, 3) := by decide +kernel
theorem dX10_dead_47 : decode M_X10_dead.2.1 47 = .ok (.iload 4, 2) := by decide +kernel
theorem dX10_dead_49 : decode M_X10_dead.2.1 49 = .ok (.iload_n 2, 1) := by decide +kernel
theorem dX10_dead_50 : decode M_X10_dead.2.1 50 = .ok (.bastore, 1) := by decide +kernel
theorem dX10_dead_51 : decode M_X10_dead.2.1 51 = .ok (.iinc 4 1, 3) := by decide +kernel
theorem dX10_dead_54 : decode M_X10_dead.2.1 54 = .ok (.goto (-35), 3) := by decide +kernel
theorem dX10_dead_57 : decode M_X10_dead.2.1 57 = .ok (.aload_n 0, 1) := by decide +kernel
theorem dX10_dead_58 : decode M_X10_dead.2.1 58 = .ok (.invokevirtual 287, 3) := by decide +kernel
theorem dX10_dead_61 : decode M_X10_dead.2.1 61 = .ok (.ireturn, 1) := by decide +kernel
def L_X10_dead_19 (X : ZX) (d n : Nat) (P : Option Value → ZSto → Prop) (x2 : Int) (x4 : Int) (σ : ZSto) : Prop := R32 x2 → R32 x4 → ZOk n σ → Zn X M_X10_dead d n P 19 [some (.ref (zB X + 73)), none, some (iV x2), none, some (iV x4)] [] σ
theorem w_X10_dead {X : ZX} {d n : Nat} {P : Int → ZSto → Prop} {x1 : Int} {x2 : Int} {σ : ZSto} (hn : 104 ≤ n)  (hx1 : R32 x1) (hx2 : R32 x2)
    (h : ZkZ X M_X10_isStone d n [.ref (zB X + 73), iV x1] σ (fun v1 σ2 => (¬ v1 = 0 → ZkI X M_X10_flood d n [.ref (zB X + 73), iV x1] σ2 (fun v9 σ10 => L_X10_dead_19 X d n (zpI P) x2 0 σ10)) ∧ (v1 = 0 → P ((-1)) σ2))) :
    ZkI X M_X10_dead (d + 1) n [.ref (zB X + 73), iV x1, iV x2] σ P := by
  refine zk_of (ls := [some (.ref (zB X + 73)), some (iV x1), some (iV x2), none, none]) pl_RX10 (Nat.le_of_ble_eq_true rfl) rfl (fun k0 => ?_)
  unfold Zn
  refine r_aload_n dX10_dead_0 rfl ?_
  refine r_iload_n dX10_dead_1 rfl ?_
  refine n_callV (N := M_X10_isStone) (As := [iV x1]) (st := []) dX10_dead_2 mk_X10_isStone km_RX10_281 kd_X10_isStone rfl (zlt hn rfl) sh_73 (q := (RX10, TX10, 52)) rfl rfl (zFits_rm d n n n (Nat.le_refl n)) (Nat.le_of_ble_eq_true rfl) rfl k0 h ?_
  rintro _ σ2 k3 ⟨v1, rfl, h4, h5⟩
  change Zm _ _ _ _ _ _ 5 _ [iV v1] _
  refine r_if_ne (t := 10) dX10_dead_5 rfl (r32_z h4)  (fun c6 => ?_) (fun c7 => ?_)
  · have h8 := h5.1 c6
    refine r_aload_n dX10_dead_10 rfl ?_
    refine r_iload_n dX10_dead_11 rfl ?_
    refine n_callV (N := M_X10_flood) (As := [iV x1]) (st := []) dX10_dead_12 mk_X10_flood km_RX10_148 kd_X10_flood rfl (zlt hn rfl) sh_73 (q := (RX10, TX10, 52)) rfl rfl (zFits_rm d n n n (Nat.le_refl n)) (Nat.le_of_ble_eq_true rfl) rfl k3 h8 ?_
    rintro _ σ10 k11 ⟨v9, rfl, h12, h13⟩
    change Zm _ _ _ _ _ _ 15 _ [iV v9] _
    refine r_istore_n dX10_dead_15 rfl rfl ?_
    refine r_iconst dX10_dead_16 ?_
    refine r_istore dX10_dead_17 rfl rfl ?_
    exact r_mask [true, false, true, false, true] rfl (h13 hx2 (r32c rfl) k11)
  · have h14 := h5.2 c7
    refine r_iconst dX10_dead_8 ?_
    exact r_ireturn dX10_dead_9 rfl ⟨k3, _, rfl, (r32c rfl), h14⟩
theorem b_X10_dead_19 {X : ZX} {d n : Nat} {P : Int → ZSto → Prop} {x2 : Int} {x4 : Int} {σ : ZSto} (hn : 104 ≤ n) 
    (h : R32 ((gI σ 73 13) * (gI σ 73 13)) ∧ ((gI σ 73 13) * (gI σ 73 13) ≤ x4 → ZkI X M_X10_stones d n [.ref (zB X + 73)] σ (fun v6 σ7 => P v6 σ7)) ∧ (¬ ((gI σ 73 13) * (gI σ 73 13) ≤ x4) → (0 ≤ x4 ∧ x4 < 81) ∧ (gI σ 85 x4.toNat = 0 → R32 (x4 + 1) ∧ L_X10_dead_19 X d n (zpI P) x2 (x4 + 1) σ) ∧ (¬ (gI σ 85 x4.toNat = 0) → (x2 = 0 ∨ x2 = 1) ∧ R32 (x4 + 1) ∧ L_X10_dead_19 X d n (zpI P) x2 (x4 + 1) (sI σ 92 x4.toNat x2)))) :
    L_X10_dead_19 X d n (zpI P) x2 x4 σ := by
  intro hx2 hx4 k0
  unfold Zn
  refine r_iload dX10_dead_19 rfl ?_
  refine r_aload_n dX10_dead_21 rfl ?_
  refine r_getI dX10_dead_22 kf_RX10_139 (zlt hn rfl) sh_73 (Or.inl rfl) rfl ?_
  refine r_aload_n dX10_dead_25 rfl ?_
  refine r_getI dX10_dead_26 kf_RX10_139 (zlt hn rfl) sh_73 (Or.inl rfl) rfl ?_
  refine r_imul dX10_dead_29 ?_
  obtain ⟨h1, h2⟩ := h
  refine r_icmp_ge (t := 57) dX10_dead_30 rfl hx4 h1 (fun c3 => ?_) (fun c4 => ?_)
  · have h5 := h2.1 c3
    refine r_aload_n dX10_dead_57 rfl ?_
    refine n_callV (N := M_X10_stones) (As := []) (st := []) dX10_dead_58 mk_X10_stones km_RX10_287 kd_X10_stones rfl (zlt hn rfl) sh_73 (q := (RX10, TX10, 52)) rfl rfl (zFits_rm d n n n (Nat.le_refl n)) (Nat.le_of_ble_eq_true rfl) rfl k0 h5 ?_
    rintro _ σ7 k8 ⟨v6, rfl, h9, h10⟩
    change Zm _ _ _ _ _ _ 61 _ [iV v6] _
    exact r_ireturn dX10_dead_61 rfl ⟨k8, _, rfl, h9, h10⟩
  · have h11 := h2.2 c4
    refine r_aload_n dX10_dead_33 rfl ?_
    refine r_getP (a := 85) dX10_dead_34 kf_RX10_49 (zlt hn rfl) sh_73 rfl (k0.1 _ _ _ (zlt hn rfl) p_73_15) ?_
    refine r_iload dX10_dead_37 rfl ?_
    obtain ⟨h12, h13⟩ := h11
    refine r_zaloadE dX10_dead_39 (zlt hn rfl) sh_85 h12.1 h12.2 rfl ?_
    refine r_if_eq (t := 51) dX10_dead_40 rfl (k0.2.1 _ _)  (fun c14 => ?_) (fun c15 => ?_)
    · have h16 := h13.1 c14
      refine r_iinc dX10_dead_51 rfl rfl rfl ?_
      refine r_goto (t := 19) dX10_dead_54 rfl ?_
      obtain ⟨h17, h18⟩ := h16
      exact r_mask [true, false, true, false, true] rfl (h18 hx2 h17 k0)
    · have h19 := h13.2 c15
      refine r_aload_n dX10_dead_43 rfl ?_
      refine r_getP (a := 92) dX10_dead_44 kf_RX10_74 (zlt hn rfl) sh_73 rfl (k0.1 _ _ _ (zlt hn rfl) p_73_33) ?_
      refine r_iload dX10_dead_47 rfl ?_
      refine r_iload_n dX10_dead_49 rfl ?_
      obtain ⟨h21, h22⟩ := h19
      refine r_zastore dX10_dead_50 (zlt hn rfl) sh_92 h12.1 h12.2 h21 ?_
      have k20 := zok_z (i := x4.toNat) (x := x2) k0 sh_92 h21
      refine r_iinc dX10_dead_51 rfl rfl rfl ?_
      refine r_goto (t := 19) dX10_dead_54 rfl ?_
      obtain ⟨h23, h24⟩ := h22
      exact r_mask [true, false, true, false, true] rfl (h24 hx2 h23 k20)
/-! StoneRoomModel.counts -/
theorem dX10_counts_0 : decode M_X10_counts.2.1 0 = .ok (.aload_n 0, 1) := by decide +kernel
theorem dX10_counts_1 : decode M_X10_counts.2.1 1 = .ok (.getfield 74, 3) := by decide +kernel
theorem dX10_counts_4 : decode M_X10_counts.2.1 4 = .ok (.iload_n 1, 1) := by decide +kernel
theorem dX10_counts_5 : decode M_X10_counts.2.1 5 = .ok (.baload, 1) := by decide +kernel
theorem dX10_counts_6 : decode M_X10_counts.2.1 6 = .ok (.ifCond .eq 7, 3) := by decide +kernel
theorem dX10_counts_9 : decode M_X10_counts.2.1 9 = .ok (.iconst 0, 1) := by decide +kernel
theorem dX10_counts_10 : decode M_X10_counts.2.1 10 = .ok (.goto 9, 3) := by decide +kernel
theorem dX10_counts_13 : decode M_X10_counts.2.1 13 = .ok (.aload_n 0, 1) := by decide +kernel
theorem dX10_counts_14 : decode M_X10_counts.2.1 14 = .ok (.getfield 46, 3) := by decide +kernel
theorem dX10_counts_17 : decode M_X10_counts.2.1 17 = .ok (.iload_n 1, 1) := by decide +kernel
theorem dX10_counts_18 : decode M_X10_counts.2.1 18 = .ok (.baload, 1) := by decide +kernel
theorem dX10_counts_19 : decode M_X10_counts.2.1 19 = .ok (.ireturn, 1) := by decide +kernel
theorem w_X10_counts {X : ZX} {d n : Nat} {P : Int → ZSto → Prop} {x1 : Int} {σ : ZSto} (hn : 104 ≤ n)  (hx1 : R32 x1)
    (h : (0 ≤ x1 ∧ x1 < 81) ∧ (gI σ 92 x1.toNat = 0 → P (gI σ 84 x1.toNat) σ) ∧ (¬ (gI σ 92 x1.toNat = 0) → P 0 σ)) :
    ZkI X M_X10_counts (d + 1) n [.ref (zB X + 73), iV x1] σ P := by
  refine zk_of (ls := [some (.ref (zB X + 73)), some (iV x1)]) pl_RX10 (Nat.le_of_ble_eq_true rfl) rfl (fun k0 => ?_)
  unfold Zn
  refine r_aload_n dX10_counts_0 rfl ?_
  refine r_getP (a := 92) dX10_counts_1 kf_RX10_74 (zlt hn rfl) sh_73 rfl (k0.1 _ _ _ (zlt hn rfl) p_73_33) ?_
  refine r_iload_n dX10_counts_4 rfl ?_
  obtain ⟨h1, h2⟩ := h
  refine r_zaloadE dX10_counts_5 (zlt hn rfl) sh_92 h1.1 h1.2 rfl ?_
  refine r_if_eq (t := 13) dX10_counts_6 rfl (k0.2.1 _ _)  (fun c3 => ?_) (fun c4 => ?_)
  · have h5 := h2.1 c3
    refine r_aload_n dX10_counts_13 rfl ?_
    refine r_getP (a := 84) dX10_counts_14 kf_RX10_46 (zlt hn rfl) sh_73 rfl (k0.1 _ _ _ (zlt hn rfl) p_73_14) ?_
    refine r_iload_n dX10_counts_17 rfl ?_
    refine r_baloadE dX10_counts_18 (zlt hn rfl) sh_84 h1.1 h1.2 rfl ?_
    exact r_ireturn dX10_counts_19 rfl ⟨k0, _, rfl, (k0.2.1 _ _), h5⟩
  · have h6 := h2.2 c4
    refine r_iconst dX10_counts_9 ?_
    refine r_goto (t := 19) dX10_counts_10 rfl ?_
    exact r_ireturn dX10_counts_19 rfl ⟨k0, _, rfl, (r32c rfl), h6⟩
/-! StoneRoomModel.owners -/
theorem dX10_owners_0 : decode M_X10_owners.2.1 0 = .ok (.iconst 0, 1) := by decide +kernel
theorem dX10_owners_1 : decode M_X10_owners.2.1 1 = .ok (.istore_n 1, 1) := by decide +kernel
theorem dX10_owners_2 : decode M_X10_owners.2.1 2 = .ok (.iload_n 1, 1) := by decide +kernel
theorem dX10_owners_3 : decode M_X10_owners.2.1 3 = .ok (.bipush 81, 2) := by decide +kernel
theorem dX10_owners_5 : decode M_X10_owners.2.1 5 = .ok (.if_icmp .ge 23, 3) := by decide +kernel
theorem dX10_owners_8 : decode M_X10_owners.2.1 8 = .ok (.aload_n 0, 1) := by decide +kernel
theorem dX10_owners_9 : decode M_X10_owners.2.1 9 = .ok (.getfield 102, 3) := by decide +kernel
theorem dX10_owners_12 : decode M_X10_owners.2.1 12 = .ok (.iload_n 1, 1) := by decide +kernel
theorem dX10_owners_13 : decode M_X10_owners.2.1 13 = .ok (.iconst 0, 1) := by decide +kernel
theorem dX10_owners_14 : decode M_X10_owners.2.1 14 = .ok (.iastore, 1) := by decide +kernel
theorem dX10_owners_15 : decode M_X10_owners.2.1 15 = .ok (.aload_n 0, 1) := by decide +kernel
theorem dX10_owners_16 : decode M_X10_owners.2.1 16 = .ok (.getfield 105, 3) := by decide +kernel
theorem dX10_owners_19 : decode M_X10_owners.2.1 19 = .ok (.iload_n 1, 1) := by decide +kernel
theorem dX10_owners_20 : decode M_X10_owners.2.1 20 = .ok (.iconst 0, 1) := by decide +kernel
theorem dX10_owners_21 : decode M_X10_owners.2.1 21 = .ok (.bastore, 1) := by decide +kernel
theorem dX10_owners_22 : decode M_X10_owners.2.1 22 = .ok (.iinc 1 1, 3) := by decide +kernel
theorem dX10_owners_25 : decode M_X10_owners.2.1 25 = .ok (.goto (-23), 3) := by decide +kernel
theorem dX10_owners_28 : decode M_X10_owners.2.1 28 = .ok (.iconst 0, 1) := by decide +kernel
theorem dX10_owners_29 : decode M_X10_owners.2.1 29 = .ok (.istore_n 1, 1) := by decide +kernel
theorem dX10_owners_30 : decode M_X10_owners.2.1 30 = .ok (.iload_n 1, 1) := by decide +kernel
theorem dX10_owners_31 : decode M_X10_owners.2.1 31 = .ok (.aload_n 0, 1) := by decide +kernel
theorem dX10_owners_32 : decode M_X10_owners.2.1 32 = .ok (.getfield 139, 3) := by decide +kernel
theorem dX10_owners_35 : decode M_X10_owners.2.1 35 = .ok (.aload_n 0, 1) := by decide +kernel
theorem dX10_owners_36 : decode M_X10_owners.2.1 36 = .ok (.getfield 139, 3) := by decide +kernel
theorem dX10_owners_39 : decode M_X10_owners.2.1 39 = .ok (.imul, 1) := by decide +kernel
theorem dX10_owners_40 : decode M_X10_owners.2.1 40 = .ok (.if_icmp .ge 230, 3) := by decide +kernel
theorem dX10_owners_43 : decode M_X10_owners.2.1 43 = .ok (.aload_n 0, 1) := by decide +kernel
theorem dX10_owners_44 : decode M_X10_owners.2.1 44 = .ok (.iload_n 1, 1) := by decide +kernel
theorem dX10_owners_45 : decode M_X10_owners.2.1 45 = .ok (.invokevirtual 345, 3) := by decide +kernel
theorem dX10_owners_48 : decode M_X10_owners.2.1 48 = .ok (.ifCond .ne 216, 3) := by decide +kernel
theorem dX10_owners_51 : decode M_X10_owners.2.1 51 = .ok (.aload_n 0, 1) := by decide +kernel
theorem dX10_owners_52 : decode M_X10_owners.2.1 52 = .ok (.getfield 105, 3) := by decide +kernel
theorem dX10_owners_55 : decode M_X10_owners.2.1 55 = .ok (.iload_n 1, 1) := by decide +kernel
theorem dX10_owners_56 : decode M_X10_owners.2.1 56 = .ok (.baload, 1) := by decide +kernel
theorem dX10_owners_57 : decode M_X10_owners.2.1 57 = .ok (.ifCond .eq 6, 3) := by decide +kernel
theorem dX10_owners_60 : decode M_X10_owners.2.1 60 = .ok (.goto 204, 3) := by decide +kernel
theorem dX10_owners_63 : decode M_X10_owners.2.1 63 = .ok (.iconst 0, 1) := by decide +kernel
theorem dX10_owners_64 : decode M_X10_owners.2.1 64 = .ok (.istore_n 2, 1) := by decide +kernel
theorem dX10_owners_65 : decode M_X10_owners.2.1 65 = .ok (.iload_n 2, 1) := by decide +kernel
theorem dX10_owners_66 : decode M_X10_owners.2.1 66 = .ok (.bipush 81, 2) := by decide +kernel
theorem dX10_owners_68 : decode M_X10_owners.2.1 68 = .ok (.if_icmp .ge 16, 3) := by decide +kernel
theorem dX10_owners_71 : decode M_X10_owners.2.1 71 = .ok (.aload_n 0, 1) := by decide +kernel
theorem dX10_owners_72 : decode M_X10_owners.2.1 72 = .ok (.getfield 49, 3) := by decide +kernel
theorem dX10_owners_75 : decode M_X10_owners.2.1 75 = .ok (.iload_n 2, 1) := by decide +kernel
theorem dX10_owners_76 : decode M_X10_owners.2.1 76 = .ok (.iconst 0, 1) := by decide +kernel
theorem dX10_owners_77 : decode M_X10_owners.2.1 77 = .ok (.bastore, 1) := by decide +kernel
theorem dX10_owners_78 : decode M_X10_owners.2.1 78 = .ok (.iinc 2 1, 3) := by decide +kernel
theorem dX10_owners_81 : decode M_X10_owners.2.1 81 = .ok (.goto (-16), 3) := by decide +kernel
theorem dX10_owners_84 : decode M_X10_owners.2.1 84 = .ok (.iconst 1, 1) := by decide +kernel
theorem dX10_owners_85 : decode M_X10_owners.2.1 85 = .ok (.istore_n 2, 1) := by decide +kernel
theorem dX10_owners_86 : decode M_X10_owners.2.1 86 = .ok (.iconst 0, 1) := by decide +kernel
theorem dX10_owners_87 : decode M_X10_owners.2.1 87 = .ok (.istore_n 3, 1) := by decide +kernel
theorem dX10_owners_88 : decode M_X10_owners.2.1 88 = .ok (.aload_n 0, 1) := by decide +kernel
theorem dX10_owners_89 : decode M_X10_owners.2.1 89 = .ok (.getfield 56, 3) := by decide +kernel
theorem dX10_owners_92 : decode M_X10_owners.2.1 92 = .ok (.iconst 0, 1) := by decide +kernel
theorem dX10_owners_93 : decode M_X10_owners.2.1 93 = .ok (.iload_n 1, 1) := by decide +kernel
theorem dX10_owners_94 : decode M_X10_owners.2.1 94 = .ok (.iastore, 1) := by decide +kernel
theorem dX10_owners_95 : decode M_X10_owners.2.1 95 = .ok (.aload_n 0, 1) := by decide +kernel
theorem dX10_owners_96 : decode M_X10_owners.2.1 96 = .ok (.getfield 49, 3) := by decide +kernel
theorem dX10_owners_99 : decode M_X10_owners.2.1 99 = .ok (.iload_n 1, 1) := by decide +kernel
theorem dX10_owners_100 : decode M_X10_owners.2.1 100 = .ok (.iconst 1, 1) := by decide +kernel
theorem dX10_owners_101 : decode M_X10_owners.2.1 101 = .ok (.bastore, 1) := by decide +kernel
theorem dX10_owners_102 : decode M_X10_owners.2.1 102 = .ok (.iload_n 2, 1) := by decide +kernel
theorem dX10_owners_103 : decode M_X10_owners.2.1 103 = .ok (.ifCond .le 100, 3) := by decide +kernel
theorem dX10_owners_106 : decode M_X10_owners.2.1 106 = .ok (.iinc 2 (-1), 3) := by decide +kernel
theorem dX10_owners_109 : decode M_X10_owners.2.1 109 = .ok (.aload_n 0, 1) := by decide +kernel
theorem dX10_owners_110 : decode M_X10_owners.2.1 110 = .ok (.getfield 56, 3) := by decide +kernel
theorem dX10_owners_113 : decode M_X10_owners.2.1 113 = .ok (.iload_n 2, 1) := by decide +kernel
theorem dX10_owners_114 : decode M_X10_owners.2.1 114 = .ok (.iaload, 1) := by decide +kernel
theorem dX10_owners_115 : decode M_X10_owners.2.1 115 = .ok (.istore 4, 2) := by decide +kernel
theorem dX10_owners_117 : decode M_X10_owners.2.1 117 = .ok (.iconst 0, 1) := by decide +kernel
theorem dX10_owners_118 : decode M_X10_owners.2.1 118 = .ok (.istore 5, 2) := by decide +kernel
theorem dX10_owners_120 : decode M_X10_owners.2.1 120 = .ok (.iload 5, 2) := by decide +kernel
theorem dX10_owners_122 : decode M_X10_owners.2.1 122 = .ok (.iconst 4, 1) := by decide +kernel
theorem dX10_owners_123 : decode M_X10_owners.2.1 123 = .ok (.if_icmp .ge 77, 3) := by decide +kernel
theorem dX10_owners_126 : decode M_X10_owners.2.1 126 = .ok (.aload_n 0, 1) := by decide +kernel
theorem dX10_owners_127 : decode M_X10_owners.2.1 127 = .ok (.iload 4, 2) := by decide +kernel
theorem dX10_owners_129 : decode M_X10_owners.2.1 129 = .ok (.iload 5, 2) := by decide +kernel
theorem dX10_owners_131 : decode M_X10_owners.2.1 131 = .ok (.invokevirtual 142, 3) := by decide +kernel
theorem dX10_owners_134 : decode M_X10_owners.2.1 134 = .ok (.istore 6, 2) := by decide +kernel
theorem dX10_owners_136 : decode M_X10_owners.2.1 136 = .ok (.iload 6, 2) := by decide +kernel
theorem dX10_owners_138 : decode M_X10_owners.2.1 138 = .ok (.ifCond .lt 56, 3) := by decide +kernel
theorem dX10_owners_141 : decode M_X10_owners.2.1 141 = .ok (.aload_n 0, 1) := by decide +kernel
theorem dX10_owners_142 : decode M_X10_owners.2.1 142 = .ok (.getfield 49, 3) := by decide +kernel
theorem dX10_owners_145 : decode M_X10_owners.2.1 145 = .ok (.iload 6, 2) := by decide +kernel
theorem dX10_owners_147 : decode M_X10_owners.2.1 147 = .ok (.baload, 1) := by decide +kernel
theorem dX10_owners_148 : decode M_X10_owners.2.1 148 = .ok (.ifCond .eq 6, 3) := by decide +kernel
theorem dX10_owners_151 : decode M_X10_owners.2.1 151 = .ok (.goto 43, 3) := by decide +kernel
theorem dX10_owners_154 : decode M_X10_owners.2.1 154 = .ok (.iload_n 3, 1) := by decide +kernel
theorem dX10_owners_155 : decode M_X10_owners.2.1 155 = .ok (.aload_n 0, 1) := by decide +kernel
theorem dX10_owners_156 : decode M_X10_owners.2.1 156 = .ok (.iload 6, 2) := by decide +kernel
theorem dX10_owners_158 : decode M_X10_owners.2.1 158 = .ok (.invokevirtual 345, 3) := by decide +kernel
theorem dX10_owners_161 : decode M_X10_owners.2.1 161 = .ok (.ior, 1) := by decide +kernel
theorem dX10_owners_162 : decode M_X10_owners.2.1 162 = .ok (.istore_n 3, 1) := by decide +kernel
theorem dX10_owners_163 : decode M_X10_owners.2.1 163 = .ok (.aload_n 0, 1) := by decide +kernel
theorem dX10_owners_164 : decode M_X10_owners.2.1 164 = .ok (.iload 6, 2) := by decide +kernel
theorem dX10_owners_166 : decode M_X10_owners.2.1 166 = .ok (.invokevirtual 345, 3) := by decide +kernel
theorem dX10_owners_169 : decode M_X10_owners.2.1 169 = .ok (.ifCond .eq 6, 3) := by decide +kernel
theorem dX10_owners_172 : decode M_X10_owners.2.1 172 = .ok (.goto 22, 3) := by decide +kernel
theorem dX10_owners_175 : decode M_X10_owners.2.1 175 = .ok (.aload_n 0, 1) := by decide +kernel
theorem dX10_owners_176 : decode M_X10_owners.2.1 176 = .ok (.getfield 49, 3) := by decide +kernel
theorem dX10_owners_179 : decode M_X10_owners.2.1 179 = .ok (.iload 6, 2) := by decide +kernel
theorem dX10_owners_181 : decode M_X10_owners.2.1 181 = .ok (.iconst 1, 1) := by decide +kernel
theorem dX10_owners_182 : decode M_X10_owners.2.1 182 = .ok (.bastore, 1) := by decide +kernel
theorem dX10_owners_183 : decode M_X10_owners.2.1 183 = .ok (.aload_n 0, 1) := by decide +kernel
theorem dX10_owners_184 : decode M_X10_owners.2.1 184 = .ok (.getfield 56, 3) := by decide +kernel
theorem dX10_owners_187 : decode M_X10_owners.2.1 187 = .ok (.iload_n 2, 1) := by decide +kernel
theorem dX10_owners_188 : decode M_X10_owners.2.1 188 = .ok (.iload 6, 2) := by decide +kernel
theorem dX10_owners_190 : decode M_X10_owners.2.1 190 = .ok (.iastore, 1) := by decide +kernel
theorem dX10_owners_191 : decode M_X10_owners.2.1 191 = .ok (.iinc 2 1, 3) := by decide +kernel
theorem dX10_owners_194 : decode M_X10_owners.2.1 194 = .ok (.iinc 5 1, 3) := by decide +kernel
theorem dX10_owners_197 : decode M_X10_owners.2.1 197 = .ok (.goto (-77), 3) := by decide +kernel
theorem dX10_owners_200 : decode M_X10_owners.2.1 200 = .ok (.goto (-98), 3) := by decide +kernel
theorem dX10_owners_203 : decode M_X10_owners.2.1 203 = .ok (.iconst 0, 1) := by decide +kernel
theorem dX10_owners_204 : decode M_X10_owners.2.1 204 = .ok (.istore 4, 2) := by decide +kernel
theorem dX10_owners_206 : decode M_X10_owners.2.1 206 = .ok (.iload 4, 2) := by decide +kernel
theorem dX10_owners_208 : decode M_X10_owners.2.1 208 = .ok (.aload_n 0, 1) := by decide +kernel
theorem dX10_owners_209 : decode M_X10_owners.2.1 209 = .ok (.getfield 139, 3) := by decide +kernel
theorem dX10_owners_212 : decode M_X10_owners.2.1 212 = .ok (.aload_n 0, 1) := by decide +kernel
theorem dX10_owners_213 : decode M_X10_owners.2.1 213 = .ok (.getfield 139, 3) := by decide +kernel
theorem dX10_owners_216 : decode M_X10_owners.2.1 216 = .ok (.imul, 1) := by decide +kernel
theorem dX10_owners_217 : decode M_X10_owners.2.1 217 = .ok (.if_icmp .ge 47, 3) := by decide +kernel
theorem dX10_owners_220 : decode M_X10_owners.2.1 220 = .ok (.aload_n 0, 1) := by decide +kernel
theorem dX10_owners_221 : decode M_X10_owners.2.1 221 = .ok (.getfield 49, 3) := by decide +kernel
theorem dX10_owners_224 : decode M_X10_owners.2.1 224 = .ok (.iload 4, 2) := by decide +kernel
theorem dX10_owners_226 : decode M_X10_owners.2.1 226 = .ok (.baload, 1) := by decide +kernel
theorem dX10_owners_227 : decode M_X10_owners.2.1 227 = .ok (.ifCond .ne 6, 3) := by decide +kernel
theorem dX10_owners_230 : decode M_X10_owners.2.1 230 = .ok (.goto 28, 3) := by decide +kernel
theorem dX10_owners_233 : decode M_X10_owners.2.1 233 = .ok (.aload_n 0, 1) := by decide +kernel
theorem dX10_owners_234 : decode M_X10_owners.2.1 234 = .ok (.getfield 105, 3) := by decide +kernel
theorem dX10_owners_237 : decode M_X10_owners.2.1 237 = .ok (.iload 4, 2) := by decide +kernel
theorem dX10_owners_239 : decode M_X10_owners.2.1 239 = .ok (.iconst 1, 1) := by decide +kernel
theorem dX10_owners_240 : decode M_X10_owners.2.1 240 = .ok (.bastore, 1) := by decide +kernel
theorem dX10_owners_241 : decode M_X10_owners.2.1 241 = .ok (.aload_n 0, 1) := by decide +kernel
theorem dX10_owners_242 : decode M_X10_owners.2.1 242 = .ok (.getfield 102, 3) := by decide +kernel
theorem dX10_owners_245 : decode M_X10_owners.2.1 245 = .ok (.iload 4, 2) := by decide +kernel
theorem dX10_owners_247 : decode M_X10_owners.2.1 247 = .ok (.iload_n 3, 1) := by decide +kernel
theorem dX10_owners_248 : decode M_X10_owners.2.1 248 = .ok (.iconst 3, 1) := by decide +kernel
theorem dX10_owners_249 : decode M_X10_owners.2.1 249 = .ok (.if_icmp .ne 7, 3) := by decide +kernel
theorem dX10_owners_252 : decode M_X10_owners.2.1 252 = .ok (.iconst 0, 1) := by decide +kernel
theorem dX10_owners_253 : decode M_X10_owners.2.1 253 = .ok (.goto 4, 3) := by decide +kernel
theorem dX10_owners_256 : decode M_X10_owners.2.1 256 = .ok (.iload_n 3, 1) := by decide +kernel
theorem dX10_owners_257 : decode M_X10_owners.2.1 257 = .ok (.iastore, 1) := by decide +kernel
theorem dX10_owners_258 : decode M_X10_owners.2.1 258 = .ok (.iinc 4 1, 3) := by decide +kernel
theorem dX10_owners_261 : decode M_X10_owners.2.1 261 = .ok (.goto (-55), 3) := by decide +kernel
theorem dX10_owners_264 : decode M_X10_owners.2.1 264 = .ok (.iinc 1 1, 3) := by decide +kernel
theorem dX10_owners_267 : decode M_X10_owners.2.1 267 = .ok (.goto (-237), 3) := by decide +kernel
theorem dX10_owners_270 : decode M_X10_owners.2.1 270 = .ok (.return_, 1) := by decide +kernel
def L_X10_owners_2 (X : ZX) (d n : Nat) (P : Option Value → ZSto → Prop) (x1 : Int) (σ : ZSto) : Prop := R32 x1 → ZOk n σ → Zn X M_X10_owners d n P 2 [some (.ref (zB X + 73)), some (iV x1), none, none, none, none, none] [] σ
def L_X10_owners_30 (X : ZX) (d n : Nat) (P : Option Value → ZSto → Prop) (x1 : Int) (σ : ZSto) : Prop := R32 x1 → ZOk n σ → Zn X M_X10_owners d n P 30 [some (.ref (zB X + 73)), some (iV x1), none, none, none, none, none] [] σ
def L_X10_owners_65 (X : ZX) (d n : Nat) (P : Option Value → ZSto → Prop) (x1 : Int) (x2 : Int) (σ : ZSto) : Prop := R32 x1 → R32 x2 → ZOk n σ → Zn X M_X10_owners d n P 65 [some (.ref (zB X + 73)), some (iV x1), some (iV x2), none, none, none, none] [] σ
def L_X10_owners_102 (X : ZX) (d n : Nat) (P : Option Value → ZSto → Prop) (x1 : Int) (x2 : Int) (x3 : Int) (σ : ZSto) : Prop := R32 x1 → R32 x2 → R32 x3 → ZOk n σ → Zn X M_X10_owners d n P 102 [some (.ref (zB X + 73)), some (iV x1), some (iV x2), some (iV x3), none, none, none] [] σ
def L_X10_owners_120 (X : ZX) (d n : Nat) (P : Option Value → ZSto → Prop) (x1 : Int) (x2 : Int) (x3 : Int) (x4 : Int) (x5 : Int) (σ : ZSto) : Prop := R32 x1 → R32 x2 → R32 x3 → R32 x4 → R32 x5 → ZOk n σ → Zn X M_X10_owners d n P 120 [some (.ref (zB X + 73)), some (iV x1), some (iV x2), some (iV x3), some (iV x4), some (iV x5), none] [] σ
def L_X10_owners_206 (X : ZX) (d n : Nat) (P : Option Value → ZSto → Prop) (x1 : Int) (x3 : Int) (x4 : Int) (σ : ZSto) : Prop := R32 x1 → R32 x3 → R32 x4 → ZOk n σ → Zn X M_X10_owners d n P 206 [some (.ref (zB X + 73)), some (iV x1), none, some (iV x3), some (iV x4), none, none] [] σ
theorem w_X10_owners {X : ZX} {d n : Nat} {P : ZSto → Prop}  {σ : ZSto} (hn : 104 ≤ n)  
    (h : L_X10_owners_2 X d n (zpV P) 0 σ) :
    ZkV X M_X10_owners (d + 1) n [.ref (zB X + 73)] σ P := by
  refine zk_of (ls := [some (.ref (zB X + 73)), none, none, none, none, none, none]) pl_RX10 (Nat.le_of_ble_eq_true rfl) rfl (fun k0 => ?_)
  unfold Zn
  refine r_iconst dX10_owners_0 ?_
  refine r_istore_n dX10_owners_1 rfl rfl ?_
  exact r_mask [true, true, false, false, false, false, false] rfl (h (r32c rfl) k0)
theorem b_X10_owners_2 {X : ZX} {d n : Nat} {P : ZSto → Prop} {x1 : Int} {σ : ZSto} (hn : 104 ≤ n) 
    (h : (81 ≤ x1 → L_X10_owners_30 X d n (zpV P) 0 σ) ∧ (¬ (81 ≤ x1) → (0 ≤ x1 ∧ x1 < 81) ∧ R32 (x1 + 1) ∧ L_X10_owners_2 X d n (zpV P) (x1 + 1) (sI (sI σ 99 x1.toNat 0) 100 x1.toNat 0))) :
    L_X10_owners_2 X d n (zpV P) x1 σ := by
  intro hx1 k0
  unfold Zn
  refine r_iload_n dX10_owners_2 rfl ?_
  refine r_bipush dX10_owners_3 rfl ?_
  refine r_icmp_ge (t := 28) dX10_owners_5 rfl hx1 (r32c rfl) (fun c1 => ?_) (fun c2 => ?_)
  · have h3 := h.1 c1
    refine r_iconst dX10_owners_28 ?_
    refine r_istore_n dX10_owners_29 rfl rfl ?_
    exact r_mask [true, true, false, false, false, false, false] rfl (h3 (r32c rfl) k0)
  · have h4 := h.2 c2
    refine r_aload_n dX10_owners_8 rfl ?_
    refine r_getP (a := 99) dX10_owners_9 kf_RX10_102 (zlt hn rfl) sh_73 rfl (k0.1 _ _ _ (zlt hn rfl) p_73_46) ?_
    refine r_iload_n dX10_owners_12 rfl ?_
    refine r_iconst dX10_owners_13 ?_
    obtain ⟨h5, h6⟩ := h4
    refine r_iastore dX10_owners_14 (zlt hn rfl) sh_99 h5.1 h5.2 ?_
    have k7 := zok_i (i := x1.toNat) (x := 0) k0 sh_99 (r32c rfl)
    refine r_aload_n dX10_owners_15 rfl ?_
    refine r_getP (a := 100) dX10_owners_16 kf_RX10_105 (zlt hn rfl) sh_73 rfl (k7.1 _ _ _ (zlt hn rfl) p_73_47) ?_
    refine r_iload_n dX10_owners_19 rfl ?_
    refine r_iconst dX10_owners_20 ?_
    refine r_zastore dX10_owners_21 (zlt hn rfl) sh_100 h5.1 h5.2 (Or.inl rfl) ?_
    have k8 := zok_z (i := x1.toNat) (x := 0) k7 sh_100 (Or.inl rfl)
    refine r_iinc dX10_owners_22 rfl rfl rfl ?_
    refine r_goto (t := 2) dX10_owners_25 rfl ?_
    obtain ⟨h9, h10⟩ := h6
    exact r_mask [true, true, false, false, false, false, false] rfl (h10 h9 k8)
theorem b_X10_owners_30 {X : ZX} {d n : Nat} {P : ZSto → Prop} {x1 : Int} {σ : ZSto} (hn : 104 ≤ n) 
    (h : R32 ((gI σ 73 13) * (gI σ 73 13)) ∧ ((gI σ 73 13) * (gI σ 73 13) ≤ x1 → P σ) ∧ (¬ ((gI σ 73 13) * (gI σ 73 13) ≤ x1) → ZkI X M_X10_counts d n [.ref (zB X + 73), iV x1] σ (fun v7 σ8 => (¬ v7 = 0 → R32 (x1 + 1) ∧ L_X10_owners_30 X d n (zpV P) (x1 + 1) σ8) ∧ (v7 = 0 → (0 ≤ x1 ∧ x1 < 81) ∧ (gI σ8 100 x1.toNat = 0 → L_X10_owners_65 X d n (zpV P) x1 0 σ8) ∧ (¬ (gI σ8 100 x1.toNat = 0) → R32 (x1 + 1) ∧ L_X10_owners_30 X d n (zpV P) (x1 + 1) σ8))))) :
    L_X10_owners_30 X d n (zpV P) x1 σ := by
  intro hx1 k0
  unfold Zn
  refine r_iload_n dX10_owners_30 rfl ?_
  refine r_aload_n dX10_owners_31 rfl ?_
  refine r_getI dX10_owners_32 kf_RX10_139 (zlt hn rfl) sh_73 (Or.inl rfl) rfl ?_
  refine r_aload_n dX10_owners_35 rfl ?_
  refine r_getI dX10_owners_36 kf_RX10_139 (zlt hn rfl) sh_73 (Or.inl rfl) rfl ?_
  refine r_imul dX10_owners_39 ?_
  obtain ⟨h1, h2⟩ := h
  refine r_icmp_ge (t := 270) dX10_owners_40 rfl hx1 h1 (fun c3 => ?_) (fun c4 => ?_)
  · have h5 := h2.1 c3
    exact r_return dX10_owners_270 rfl ⟨k0, rfl, h5⟩
  · have h6 := h2.2 c4
    refine r_aload_n dX10_owners_43 rfl ?_
    refine r_iload_n dX10_owners_44 rfl ?_
    refine n_callV (N := M_X10_counts) (As := [iV x1]) (st := []) dX10_owners_45 mk_X10_counts km_RX10_345 kd_X10_counts rfl (zlt hn rfl) sh_73 (q := (RX10, TX10, 52)) rfl rfl (zFits_rm d n n n (Nat.le_refl n)) (Nat.le_of_ble_eq_true rfl) rfl k0 h6 ?_
    rintro _ σ8 k9 ⟨v7, rfl, h10, h11⟩
    change Zm _ _ _ _ _ _ 48 _ [iV v7] _
    refine r_if_ne (t := 264) dX10_owners_48 rfl h10  (fun c12 => ?_) (fun c13 => ?_)
    · have h14 := h11.1 c12
      refine r_iinc dX10_owners_264 rfl rfl rfl ?_
      refine r_goto (t := 30) dX10_owners_267 rfl ?_
      obtain ⟨h15, h16⟩ := h14
      exact r_mask [true, true, false, false, false, false, false] rfl (h16 h15 k9)
    · have h17 := h11.2 c13
      refine r_aload_n dX10_owners_51 rfl ?_
      refine r_getP (a := 100) dX10_owners_52 kf_RX10_105 (zlt hn rfl) sh_73 rfl (k9.1 _ _ _ (zlt hn rfl) p_73_47) ?_
      refine r_iload_n dX10_owners_55 rfl ?_
      obtain ⟨h18, h19⟩ := h17
      refine r_zaloadE dX10_owners_56 (zlt hn rfl) sh_100 h18.1 h18.2 rfl ?_
      refine r_if_eq (t := 63) dX10_owners_57 rfl (k9.2.1 _ _)  (fun c20 => ?_) (fun c21 => ?_)
      · have h22 := h19.1 c20
        refine r_iconst dX10_owners_63 ?_
        refine r_istore_n dX10_owners_64 rfl rfl ?_
        exact r_mask [true, true, true, false, false, false, false] rfl (h22 hx1 (r32c rfl) k9)
      · have h23 := h19.2 c21
        refine r_goto (t := 264) dX10_owners_60 rfl ?_
        refine r_iinc dX10_owners_264 rfl rfl rfl ?_
        refine r_goto (t := 30) dX10_owners_267 rfl ?_
        obtain ⟨h24, h25⟩ := h23
        exact r_mask [true, true, false, false, false, false, false] rfl (h25 h24 k9)
theorem b_X10_owners_65 {X : ZX} {d n : Nat} {P : ZSto → Prop} {x1 : Int} {x2 : Int} {σ : ZSto} (hn : 104 ≤ n) 
    (h : (81 ≤ x2 → (0 ≤ x1 ∧ x1 < 81) ∧ L_X10_owners_102 X d n (zpV P) x1 1 0 (sI (sI σ 87 0 x1) 85 x1.toNat 1)) ∧ (¬ (81 ≤ x2) → (0 ≤ x2 ∧ x2 < 81) ∧ R32 (x2 + 1) ∧ L_X10_owners_65 X d n (zpV P) x1 (x2 + 1) (sI σ 85 x2.toNat 0))) :
    L_X10_owners_65 X d n (zpV P) x1 x2 σ := by
  intro hx1 hx2 k0
  unfold Zn
  refine r_iload_n dX10_owners_65 rfl ?_
  refine r_bipush dX10_owners_66 rfl ?_
  refine r_icmp_ge (t := 84) dX10_owners_68 rfl hx2 (r32c rfl) (fun c1 => ?_) (fun c2 => ?_)
  · have h3 := h.1 c1
    refine r_iconst dX10_owners_84 ?_
    refine r_istore_n dX10_owners_85 rfl rfl ?_
    refine r_iconst dX10_owners_86 ?_
    refine r_istore_n dX10_owners_87 rfl rfl ?_
    refine r_aload_n dX10_owners_88 rfl ?_
    refine r_getP (a := 87) dX10_owners_89 kf_RX10_56 (zlt hn rfl) sh_73 rfl (k0.1 _ _ _ (zlt hn rfl) p_73_17) ?_
    refine r_iconst dX10_owners_92 ?_
    refine r_iload_n dX10_owners_93 rfl ?_
    refine r_iastore dX10_owners_94 (zlt hn rfl) sh_87 (by decide) (by decide) ?_
    have k4 := zok_i (i := 0) (x := x1) k0 sh_87 hx1
    refine r_aload_n dX10_owners_95 rfl ?_
    refine r_getP (a := 85) dX10_owners_96 kf_RX10_49 (zlt hn rfl) sh_73 rfl (k4.1 _ _ _ (zlt hn rfl) p_73_15) ?_
    refine r_iload_n dX10_owners_99 rfl ?_
    refine r_iconst dX10_owners_100 ?_
    obtain ⟨h5, h6⟩ := h3
    refine r_zastore dX10_owners_101 (zlt hn rfl) sh_85 h5.1 h5.2 (Or.inr rfl) ?_
    have k7 := zok_z (i := x1.toNat) (x := 1) k4 sh_85 (Or.inr rfl)
    exact r_mask [true, true, true, true, false, false, false] rfl (h6 hx1 (r32c rfl) (r32c rfl) k7)
  · have h8 := h.2 c2
    refine r_aload_n dX10_owners_71 rfl ?_
    refine r_getP (a := 85) dX10_owners_72 kf_RX10_49 (zlt hn rfl) sh_73 rfl (k0.1 _ _ _ (zlt hn rfl) p_73_15) ?_
    refine r_iload_n dX10_owners_75 rfl ?_
    refine r_iconst dX10_owners_76 ?_
    obtain ⟨h9, h10⟩ := h8
    refine r_zastore dX10_owners_77 (zlt hn rfl) sh_85 h9.1 h9.2 (Or.inl rfl) ?_
    have k11 := zok_z (i := x2.toNat) (x := 0) k0 sh_85 (Or.inl rfl)
    refine r_iinc dX10_owners_78 rfl rfl rfl ?_
    refine r_goto (t := 65) dX10_owners_81 rfl ?_
    obtain ⟨h12, h13⟩ := h10
    exact r_mask [true, true, true, false, false, false, false] rfl (h13 hx1 h12 k11)
theorem b_X10_owners_102 {X : ZX} {d n : Nat} {P : ZSto → Prop} {x1 : Int} {x2 : Int} {x3 : Int} {σ : ZSto} (hn : 104 ≤ n) 
    (h : (x2 ≤ 0 → L_X10_owners_206 X d n (zpV P) x1 x3 0 σ) ∧ (¬ (x2 ≤ 0) → (0 ≤ x2 + (-1) ∧ x2 + (-1) < 81) ∧ (∀ y7 : Int, y7 = gI σ 87 ((x2 + (-1)).toNat) → R32 (x2 + (-1)) ∧ L_X10_owners_120 X d n (zpV P) x1 (x2 + (-1)) x3 y7 0 σ))) :
    L_X10_owners_102 X d n (zpV P) x1 x2 x3 σ := by
  intro hx1 hx2 hx3 k0
  unfold Zn
  refine r_iload_n dX10_owners_102 rfl ?_
  refine r_if_le (t := 203) dX10_owners_103 rfl hx2  (fun c1 => ?_) (fun c2 => ?_)
  · have h3 := h.1 c1
    refine r_iconst dX10_owners_203 ?_
    refine r_istore dX10_owners_204 rfl rfl ?_
    exact r_mask [true, true, false, true, true, false, false] rfl (h3 hx1 hx3 (r32c rfl) k0)
  · have h4 := h.2 c2
    refine r_iinc dX10_owners_106 rfl rfl rfl ?_
    refine r_aload_n dX10_owners_109 rfl ?_
    refine r_getP (a := 87) dX10_owners_110 kf_RX10_56 (zlt hn rfl) sh_73 rfl (k0.1 _ _ _ (zlt hn rfl) p_73_17) ?_
    refine r_iload_n dX10_owners_113 rfl ?_
    obtain ⟨h5, h6⟩ := h4
    refine r_ialoadE dX10_owners_114 (zlt hn rfl) sh_87 h5.1 h5.2 rfl ?_
    refine r_name (fun y7 e8 => ?_)
    have h9 := h6 y7 e8
    refine r_istore dX10_owners_115 rfl rfl ?_
    refine r_iconst dX10_owners_117 ?_
    refine r_istore dX10_owners_118 rfl rfl ?_
    obtain ⟨h10, h11⟩ := h9
    exact r_mask [true, true, true, true, true, true, false] rfl (h11 hx1 h10 hx3 (by rw [e8]; exact (k0.2.1 _ _)) (r32c rfl) k0)
theorem b_X10_owners_120 {X : ZX} {d n : Nat} {P : ZSto → Prop} {x1 : Int} {x2 : Int} {x3 : Int} {x4 : Int} {x5 : Int} {σ : ZSto} (hn : 104 ≤ n) 
    (h : (4 ≤ x5 → L_X10_owners_102 X d n (zpV P) x1 x2 x3 σ) ∧ (¬ (4 ≤ x5) → ZkI X M_X10_beside d n [.ref (zB X + 73), iV x4, iV x5] σ (fun v5 σ6 => (v5 < 0 → R32 (x5 + 1) ∧ L_X10_owners_120 X d n (zpV P) x1 x2 x3 x4 (x5 + 1) σ6) ∧ (¬ (v5 < 0) → (0 ≤ v5 ∧ v5 < 81) ∧ (gI σ6 85 v5.toNat = 0 → ZkI X M_X10_counts d n [.ref (zB X + 73), iV v5] σ6 (fun v21 σ22 => ZkI X M_X10_counts d n [.ref (zB X + 73), iV v5] σ22 (fun v26 σ27 => (v26 = 0 → (0 ≤ x2 ∧ x2 < 81) ∧ R32 (x2 + 1) ∧ R32 (x5 + 1) ∧ L_X10_owners_120 X d n (zpV P) x1 (x2 + 1) (orI x3 v21) x4 (x5 + 1) (sI (sI σ27 85 v5.toNat 1) 87 x2.toNat v5)) ∧ (¬ (v26 = 0) → R32 (x5 + 1) ∧ L_X10_owners_120 X d n (zpV P) x1 x2 (orI x3 v21) x4 (x5 + 1) σ27)))) ∧ (¬ (gI σ6 85 v5.toNat = 0) → R32 (x5 + 1) ∧ L_X10_owners_120 X d n (zpV P) x1 x2 x3 x4 (x5 + 1) σ6))))) :
    L_X10_owners_120 X d n (zpV P) x1 x2 x3 x4 x5 σ := by
  intro hx1 hx2 hx3 hx4 hx5 k0
  unfold Zn
  refine r_iload dX10_owners_120 rfl ?_
  refine r_iconst dX10_owners_122 ?_
  refine r_icmp_ge (t := 200) dX10_owners_123 rfl hx5 (r32c rfl) (fun c1 => ?_) (fun c2 => ?_)
  · have h3 := h.1 c1
    refine r_goto (t := 102) dX10_owners_200 rfl ?_
    exact r_mask [true, true, true, true, false, false, false] rfl (h3 hx1 hx2 hx3 k0)
  · have h4 := h.2 c2
    refine r_aload_n dX10_owners_126 rfl ?_
    refine r_iload dX10_owners_127 rfl ?_
    refine r_iload dX10_owners_129 rfl ?_
    refine n_callV (N := M_X10_beside) (As := [iV x4, iV x5]) (st := []) dX10_owners_131 mk_X10_beside km_RX10_142 kd_X10_beside rfl (zlt hn rfl) sh_73 (q := (RX10, TX10, 52)) rfl rfl (zFits_rm d n n n (Nat.le_refl n)) (Nat.le_of_ble_eq_true rfl) rfl k0 h4 ?_
    rintro _ σ6 k7 ⟨v5, rfl, h8, h9⟩
    change Zm _ _ _ _ _ _ 134 _ [iV v5] _
    refine r_istore dX10_owners_134 rfl rfl ?_
    refine r_iload dX10_owners_136 rfl ?_
    refine r_if_lt (t := 194) dX10_owners_138 rfl h8  (fun c10 => ?_) (fun c11 => ?_)
    · have h12 := h9.1 c10
      refine r_iinc dX10_owners_194 rfl rfl rfl ?_
      refine r_goto (t := 120) dX10_owners_197 rfl ?_
      obtain ⟨h13, h14⟩ := h12
      exact r_mask [true, true, true, true, true, true, false] rfl (h14 hx1 hx2 hx3 hx4 h13 k7)
    · have h15 := h9.2 c11
      refine r_aload_n dX10_owners_141 rfl ?_
      refine r_getP (a := 85) dX10_owners_142 kf_RX10_49 (zlt hn rfl) sh_73 rfl (k7.1 _ _ _ (zlt hn rfl) p_73_15) ?_
      refine r_iload dX10_owners_145 rfl ?_
      obtain ⟨h16, h17⟩ := h15
      refine r_zaloadE dX10_owners_147 (zlt hn rfl) sh_85 h16.1 h16.2 rfl ?_
      refine r_if_eq (t := 154) dX10_owners_148 rfl (k7.2.1 _ _)  (fun c18 => ?_) (fun c19 => ?_)
      · have h20 := h17.1 c18
        refine r_iload_n dX10_owners_154 rfl ?_
        refine r_aload_n dX10_owners_155 rfl ?_
        refine r_iload dX10_owners_156 rfl ?_
        refine n_callV (N := M_X10_counts) (As := [iV v5]) (st := [iV x3]) dX10_owners_158 mk_X10_counts km_RX10_345 kd_X10_counts rfl (zlt hn rfl) sh_73 (q := (RX10, TX10, 52)) rfl rfl (zFits_rm d n n n (Nat.le_refl n)) (Nat.le_of_ble_eq_true rfl) rfl k7 h20 ?_
        rintro _ σ22 k23 ⟨v21, rfl, h24, h25⟩
        change Zm _ _ _ _ _ _ 161 _ [iV v21, iV x3] _
        refine r_ior dX10_owners_161 ?_
        refine r_istore_n dX10_owners_162 rfl rfl ?_
        refine r_aload_n dX10_owners_163 rfl ?_
        refine r_iload dX10_owners_164 rfl ?_
        refine n_callV (N := M_X10_counts) (As := [iV v5]) (st := []) dX10_owners_166 mk_X10_counts km_RX10_345 kd_X10_counts rfl (zlt hn rfl) sh_73 (q := (RX10, TX10, 52)) rfl rfl (zFits_rm d n n n (Nat.le_refl n)) (Nat.le_of_ble_eq_true rfl) rfl k23 h25 ?_
        rintro _ σ27 k28 ⟨v26, rfl, h29, h30⟩
        change Zm _ _ _ _ _ _ 169 _ [iV v26] _
        refine r_if_eq (t := 175) dX10_owners_169 rfl h29  (fun c31 => ?_) (fun c32 => ?_)
        · have h33 := h30.1 c31
          refine r_aload_n dX10_owners_175 rfl ?_
          refine r_getP (a := 85) dX10_owners_176 kf_RX10_49 (zlt hn rfl) sh_73 rfl (k28.1 _ _ _ (zlt hn rfl) p_73_15) ?_
          refine r_iload dX10_owners_179 rfl ?_
          refine r_iconst dX10_owners_181 ?_
          refine r_zastore dX10_owners_182 (zlt hn rfl) sh_85 h16.1 h16.2 (Or.inr rfl) ?_
          have k34 := zok_z (i := v5.toNat) (x := 1) k28 sh_85 (Or.inr rfl)
          refine r_aload_n dX10_owners_183 rfl ?_
          refine r_getP (a := 87) dX10_owners_184 kf_RX10_56 (zlt hn rfl) sh_73 rfl (k34.1 _ _ _ (zlt hn rfl) p_73_17) ?_
          refine r_iload_n dX10_owners_187 rfl ?_
          refine r_iload dX10_owners_188 rfl ?_
          obtain ⟨h35, h36⟩ := h33
          refine r_iastore dX10_owners_190 (zlt hn rfl) sh_87 h35.1 h35.2 ?_
          have k37 := zok_i (i := x2.toNat) (x := v5) k34 sh_87 h8
          refine r_iinc dX10_owners_191 rfl rfl rfl ?_
          refine r_iinc dX10_owners_194 rfl rfl rfl ?_
          refine r_goto (t := 120) dX10_owners_197 rfl ?_
          obtain ⟨h38, h39⟩ := h36
          obtain ⟨h40, h41⟩ := h39
          exact r_mask [true, true, true, true, true, true, false] rfl (h41 hx1 h38 (r32_or _ _) hx4 h40 k37)
        · have h42 := h30.2 c32
          refine r_goto (t := 194) dX10_owners_172 rfl ?_
          refine r_iinc dX10_owners_194 rfl rfl rfl ?_
          refine r_goto (t := 120) dX10_owners_197 rfl ?_
          obtain ⟨h43, h44⟩ := h42
          exact r_mask [true, true, true, true, true, true, false] rfl (h44 hx1 hx2 (r32_or _ _) hx4 h43 k28)
      · have h45 := h17.2 c19
        refine r_goto (t := 194) dX10_owners_151 rfl ?_
        refine r_iinc dX10_owners_194 rfl rfl rfl ?_
        refine r_goto (t := 120) dX10_owners_197 rfl ?_
        obtain ⟨h46, h47⟩ := h45
        exact r_mask [true, true, true, true, true, true, false] rfl (h47 hx1 hx2 hx3 hx4 h46 k7)
theorem b_X10_owners_206 {X : ZX} {d n : Nat} {P : ZSto → Prop} {x1 : Int} {x3 : Int} {x4 : Int} {σ : ZSto} (hn : 104 ≤ n) 
    (h : R32 ((gI σ 73 13) * (gI σ 73 13)) ∧ ((gI σ 73 13) * (gI σ 73 13) ≤ x4 → R32 (x1 + 1) ∧ L_X10_owners_30 X d n (zpV P) (x1 + 1) σ) ∧ (¬ ((gI σ 73 13) * (gI σ 73 13) ≤ x4) → (0 ≤ x4 ∧ x4 < 81) ∧ (¬ gI σ 85 x4.toNat = 0 → (¬ x3 = 3 → R32 (x4 + 1) ∧ L_X10_owners_206 X d n (zpV P) x1 x3 (x4 + 1) (sI (sI σ 100 x4.toNat 1) 99 x4.toNat x3)) ∧ (x3 = 3 → R32 (x4 + 1) ∧ L_X10_owners_206 X d n (zpV P) x1 x3 (x4 + 1) (sI (sI σ 100 x4.toNat 1) 99 x4.toNat 0))) ∧ (gI σ 85 x4.toNat = 0 → R32 (x4 + 1) ∧ L_X10_owners_206 X d n (zpV P) x1 x3 (x4 + 1) σ))) :
    L_X10_owners_206 X d n (zpV P) x1 x3 x4 σ := by
  intro hx1 hx3 hx4 k0
  unfold Zn
  refine r_iload dX10_owners_206 rfl ?_
  refine r_aload_n dX10_owners_208 rfl ?_
  refine r_getI dX10_owners_209 kf_RX10_139 (zlt hn rfl) sh_73 (Or.inl rfl) rfl ?_
  refine r_aload_n dX10_owners_212 rfl ?_
  refine r_getI dX10_owners_213 kf_RX10_139 (zlt hn rfl) sh_73 (Or.inl rfl) rfl ?_
  refine r_imul dX10_owners_216 ?_
  obtain ⟨h1, h2⟩ := h
  refine r_icmp_ge (t := 264) dX10_owners_217 rfl hx4 h1 (fun c3 => ?_) (fun c4 => ?_)
  · have h5 := h2.1 c3
    refine r_iinc dX10_owners_264 rfl rfl rfl ?_
    refine r_goto (t := 30) dX10_owners_267 rfl ?_
    obtain ⟨h6, h7⟩ := h5
    exact r_mask [true, true, false, false, false, false, false] rfl (h7 h6 k0)
  · have h8 := h2.2 c4
    refine r_aload_n dX10_owners_220 rfl ?_
    refine r_getP (a := 85) dX10_owners_221 kf_RX10_49 (zlt hn rfl) sh_73 rfl (k0.1 _ _ _ (zlt hn rfl) p_73_15) ?_
    refine r_iload dX10_owners_224 rfl ?_
    obtain ⟨h9, h10⟩ := h8
    refine r_zaloadE dX10_owners_226 (zlt hn rfl) sh_85 h9.1 h9.2 rfl ?_
    refine r_if_ne (t := 233) dX10_owners_227 rfl (k0.2.1 _ _)  (fun c11 => ?_) (fun c12 => ?_)
    · have h13 := h10.1 c11
      refine r_aload_n dX10_owners_233 rfl ?_
      refine r_getP (a := 100) dX10_owners_234 kf_RX10_105 (zlt hn rfl) sh_73 rfl (k0.1 _ _ _ (zlt hn rfl) p_73_47) ?_
      refine r_iload dX10_owners_237 rfl ?_
      refine r_iconst dX10_owners_239 ?_
      refine r_zastore dX10_owners_240 (zlt hn rfl) sh_100 h9.1 h9.2 (Or.inr rfl) ?_
      have k14 := zok_z (i := x4.toNat) (x := 1) k0 sh_100 (Or.inr rfl)
      refine r_aload_n dX10_owners_241 rfl ?_
      refine r_getP (a := 99) dX10_owners_242 kf_RX10_102 (zlt hn rfl) sh_73 rfl (k14.1 _ _ _ (zlt hn rfl) p_73_46) ?_
      refine r_iload dX10_owners_245 rfl ?_
      refine r_iload_n dX10_owners_247 rfl ?_
      refine r_iconst dX10_owners_248 ?_
      refine r_icmp_ne (t := 256) dX10_owners_249 rfl hx3 (r32c rfl) (fun c15 => ?_) (fun c16 => ?_)
      · have h17 := h13.1 c15
        refine r_iload_n dX10_owners_256 rfl ?_
        refine r_iastore dX10_owners_257 (zlt hn rfl) sh_99 h9.1 h9.2 ?_
        have k18 := zok_i (i := x4.toNat) (x := x3) k14 sh_99 hx3
        refine r_iinc dX10_owners_258 rfl rfl rfl ?_
        refine r_goto (t := 206) dX10_owners_261 rfl ?_
        obtain ⟨h19, h20⟩ := h17
        exact r_mask [true, true, false, true, true, false, false] rfl (h20 hx1 hx3 h19 k18)
      · have h21 := h13.2 c16
        refine r_iconst dX10_owners_252 ?_
        refine r_goto (t := 257) dX10_owners_253 rfl ?_
        refine r_iastore dX10_owners_257 (zlt hn rfl) sh_99 h9.1 h9.2 ?_
        have k22 := zok_i (i := x4.toNat) (x := 0) k14 sh_99 (r32c rfl)
        refine r_iinc dX10_owners_258 rfl rfl rfl ?_
        refine r_goto (t := 206) dX10_owners_261 rfl ?_
        obtain ⟨h23, h24⟩ := h21
        exact r_mask [true, true, false, true, true, false, false] rfl (h24 hx1 hx3 h23 k22)
    · have h25 := h10.2 c12
      refine r_goto (t := 258) dX10_owners_230 rfl ?_
      refine r_iinc dX10_owners_258 rfl rfl rfl ?_
      refine r_goto (t := 206) dX10_owners_261 rfl ?_
      obtain ⟨h26, h27⟩ := h25
      exact r_mask [true, true, false, true, true, false, false] rfl (h27 hx1 hx3 h26 k0)
/-! StoneRoomModel.taken -/
theorem dX10_taken_0 : decode M_X10_taken.2.1 0 = .ok (.iconst 0, 1) := by decide +kernel
theorem dX10_taken_1 : decode M_X10_taken.2.1 1 = .ok (.istore_n 2, 1) := by decide +kernel
theorem dX10_taken_2 : decode M_X10_taken.2.1 2 = .ok (.aload_n 0, 1) := by decide +kernel
theorem dX10_taken_3 : decode M_X10_taken.2.1 3 = .ok (.getfield 173, 3) := by decide +kernel
theorem dX10_taken_6 : decode M_X10_taken.2.1 6 = .ok (.istore_n 3, 1) := by decide +kernel
theorem dX10_taken_7 : decode M_X10_taken.2.1 7 = .ok (.iload_n 3, 1) := by decide +kernel
theorem dX10_taken_8 : decode M_X10_taken.2.1 8 = .ok (.ifCond .lt 36, 3) := by decide +kernel
theorem dX10_taken_11 : decode M_X10_taken.2.1 11 = .ok (.iload_n 2, 1) := by decide +kernel
theorem dX10_taken_12 : decode M_X10_taken.2.1 12 = .ok (.aload_n 0, 1) := by decide +kernel
theorem dX10_taken_13 : decode M_X10_taken.2.1 13 = .ok (.getfield 16, 3) := by decide +kernel
theorem dX10_taken_16 : decode M_X10_taken.2.1 16 = .ok (.iload_n 3, 1) := by decide +kernel
theorem dX10_taken_17 : decode M_X10_taken.2.1 17 = .ok (.iaload, 1) := by decide +kernel
theorem dX10_taken_18 : decode M_X10_taken.2.1 18 = .ok (.iload_n 1, 1) := by decide +kernel
theorem dX10_taken_19 : decode M_X10_taken.2.1 19 = .ok (.if_icmp .ne 12, 3) := by decide +kernel
theorem dX10_taken_22 : decode M_X10_taken.2.1 22 = .ok (.aload_n 0, 1) := by decide +kernel
theorem dX10_taken_23 : decode M_X10_taken.2.1 23 = .ok (.getfield 22, 3) := by decide +kernel
theorem dX10_taken_26 : decode M_X10_taken.2.1 26 = .ok (.iload_n 3, 1) := by decide +kernel
theorem dX10_taken_27 : decode M_X10_taken.2.1 27 = .ok (.iaload, 1) := by decide +kernel
theorem dX10_taken_28 : decode M_X10_taken.2.1 28 = .ok (.goto 4, 3) := by decide +kernel
theorem dX10_taken_31 : decode M_X10_taken.2.1 31 = .ok (.iconst 0, 1) := by decide +kernel
theorem dX10_taken_32 : decode M_X10_taken.2.1 32 = .ok (.iadd, 1) := by decide +kernel
theorem dX10_taken_33 : decode M_X10_taken.2.1 33 = .ok (.istore_n 2, 1) := by decide +kernel
theorem dX10_taken_34 : decode M_X10_taken.2.1 34 = .ok (.aload_n 0, 1) := by decide +kernel
theorem dX10_taken_35 : decode M_X10_taken.2.1 35 = .ok (.getfield 7, 3) := by decide +kernel
theorem dX10_taken_38 : decode M_X10_taken.2.1 38 = .ok (.iload_n 3, 1) := by decide +kernel
theorem dX10_taken_39 : decode M_X10_taken.2.1 39 = .ok (.iaload, 1) := by decide +kernel
theorem dX10_taken_40 : decode M_X10_taken.2.1 40 = .ok (.istore_n 3, 1) := by decide +kernel
theorem dX10_taken_41 : decode M_X10_taken.2.1 41 = .ok (.goto (-34), 3) := by decide +kernel
theorem dX10_taken_44 : decode M_X10_taken.2.1 44 = .ok (.iload_n 2, 1) := by decide +kernel
theorem dX10_taken_45 : decode M_X10_taken.2.1 45 = .ok (.ireturn, 1) := by decide +kernel
def L_X10_taken_7 (X : ZX) (d n : Nat) (P : Option Value → ZSto → Prop) (x1 : Int) (x2 : Int) (x3 : Int) (σ : ZSto) : Prop := R32 x1 → R32 x2 → R32 x3 → ZOk n σ → Zn X M_X10_taken d n P 7 [some (.ref (zB X + 73)), some (iV x1), some (iV x2), some (iV x3)] [] σ
theorem w_X10_taken {X : ZX} {d n : Nat} {P : Int → ZSto → Prop} {x1 : Int} {σ : ZSto} (hn : 104 ≤ n)  (hx1 : R32 x1)
    (h : (∀ y1 : Int, y1 = gI σ 73 11 → L_X10_taken_7 X d n (zpI P) x1 0 y1 σ)) :
    ZkI X M_X10_taken (d + 1) n [.ref (zB X + 73), iV x1] σ P := by
  refine zk_of (ls := [some (.ref (zB X + 73)), some (iV x1), none, none]) pl_RX10 (Nat.le_of_ble_eq_true rfl) rfl (fun k0 => ?_)
  unfold Zn
  refine r_iconst dX10_taken_0 ?_
  refine r_istore_n dX10_taken_1 rfl rfl ?_
  refine r_aload_n dX10_taken_2 rfl ?_
  refine r_getI dX10_taken_3 kf_RX10_173 (zlt hn rfl) sh_73 (Or.inl rfl) rfl ?_
  refine r_name (fun y1 e2 => ?_)
  have h3 := h y1 e2
  refine r_istore_n dX10_taken_6 rfl rfl ?_
  exact r_mask [true, true, true, true] rfl (h3 hx1 (r32c rfl) (by rw [e2]; exact (k0.2.1 _ _)) k0)
theorem b_X10_taken_7 {X : ZX} {d n : Nat} {P : Int → ZSto → Prop} {x1 : Int} {x2 : Int} {x3 : Int} {σ : ZSto} (hn : 104 ≤ n) 
    (h : (x3 < 0 → P x2 σ) ∧ (¬ (x3 < 0) → (0 ≤ x3 ∧ x3 < 500) ∧ (¬ gI σ 76 x3.toNat = x1 → (∀ y10 : Int, y10 = gI σ 74 x3.toNat → R32 (x2 + 0) ∧ L_X10_taken_7 X d n (zpI P) x1 (x2 + 0) y10 σ)) ∧ (gI σ 76 x3.toNat = x1 → (∀ y16 : Int, y16 = x2 + (gI σ 78 x3.toNat) → (∀ y19 : Int, y19 = gI σ 74 x3.toNat → R32 y16 ∧ L_X10_taken_7 X d n (zpI P) x1 y16 y19 σ))))) :
    L_X10_taken_7 X d n (zpI P) x1 x2 x3 σ := by
  intro hx1 hx2 hx3 k0
  unfold Zn
  refine r_iload_n dX10_taken_7 rfl ?_
  refine r_if_lt (t := 44) dX10_taken_8 rfl hx3  (fun c1 => ?_) (fun c2 => ?_)
  · have h3 := h.1 c1
    refine r_iload_n dX10_taken_44 rfl ?_
    exact r_ireturn dX10_taken_45 rfl ⟨k0, _, rfl, hx2, h3⟩
  · have h4 := h.2 c2
    refine r_iload_n dX10_taken_11 rfl ?_
    refine r_aload_n dX10_taken_12 rfl ?_
    refine r_getP (a := 76) dX10_taken_13 kf_RX10_16 (zlt hn rfl) sh_73 rfl (k0.1 _ _ _ (zlt hn rfl) p_73_2) ?_
    refine r_iload_n dX10_taken_16 rfl ?_
    obtain ⟨h5, h6⟩ := h4
    refine r_ialoadE dX10_taken_17 (zlt hn rfl) sh_76 h5.1 h5.2 rfl ?_
    refine r_iload_n dX10_taken_18 rfl ?_
    refine r_icmp_ne (t := 31) dX10_taken_19 rfl (k0.2.1 _ _) hx1 (fun c7 => ?_) (fun c8 => ?_)
    · have h9 := h6.1 c7
      refine r_iconst dX10_taken_31 ?_
      refine r_iadd dX10_taken_32 ?_
      refine r_istore_n dX10_taken_33 rfl rfl ?_
      refine r_aload_n dX10_taken_34 rfl ?_
      refine r_getP (a := 74) dX10_taken_35 kf_RX10_7 (zlt hn rfl) sh_73 rfl (k0.1 _ _ _ (zlt hn rfl) p_73_0) ?_
      refine r_iload_n dX10_taken_38 rfl ?_
      refine r_ialoadE dX10_taken_39 (zlt hn rfl) sh_74 h5.1 h5.2 rfl ?_
      refine r_name (fun y10 e11 => ?_)
      have h12 := h9 y10 e11
      refine r_istore_n dX10_taken_40 rfl rfl ?_
      refine r_goto (t := 7) dX10_taken_41 rfl ?_
      obtain ⟨h13, h14⟩ := h12
      exact r_mask [true, true, true, true] rfl (h14 hx1 h13 (by rw [e11]; exact (k0.2.1 _ _)) k0)
    · have h15 := h6.2 c8
      refine r_aload_n dX10_taken_22 rfl ?_
      refine r_getP (a := 78) dX10_taken_23 kf_RX10_22 (zlt hn rfl) sh_73 rfl (k0.1 _ _ _ (zlt hn rfl) p_73_4) ?_
      refine r_iload_n dX10_taken_26 rfl ?_
      refine r_ialoadE dX10_taken_27 (zlt hn rfl) sh_78 h5.1 h5.2 rfl ?_
      refine r_goto (t := 32) dX10_taken_28 rfl ?_
      refine r_iadd dX10_taken_32 ?_
      refine r_name (fun y16 e17 => ?_)
      have h18 := h15 y16 e17
      refine r_istore_n dX10_taken_33 rfl rfl ?_
      refine r_aload_n dX10_taken_34 rfl ?_
      refine r_getP (a := 74) dX10_taken_35 kf_RX10_7 (zlt hn rfl) sh_73 rfl (k0.1 _ _ _ (zlt hn rfl) p_73_0) ?_
      refine r_iload_n dX10_taken_38 rfl ?_
      refine r_ialoadE dX10_taken_39 (zlt hn rfl) sh_74 h5.1 h5.2 rfl ?_
      refine r_name (fun y19 e20 => ?_)
      have h21 := h18 y19 e20
      refine r_istore_n dX10_taken_40 rfl rfl ?_
      refine r_goto (t := 7) dX10_taken_41 rfl ?_
      obtain ⟨h22, h23⟩ := h21
      exact r_mask [true, true, true, true] rfl (h23 hx1 h22 (by rw [e20]; exact (k0.2.1 _ _)) k0)
/-! StoneRoomModel.score -/
theorem dX10_score_0 : decode M_X10_score.2.1 0 = .ok (.iload_n 1, 1) := by decide +kernel
theorem dX10_score_1 : decode M_X10_score.2.1 1 = .ok (.iconst 1, 1) := by decide +kernel
theorem dX10_score_2 : decode M_X10_score.2.1 2 = .ok (.if_icmp .lt 17, 3) := by decide +kernel
theorem dX10_score_5 : decode M_X10_score.2.1 5 = .ok (.iload_n 1, 1) := by decide +kernel
theorem dX10_score_6 : decode M_X10_score.2.1 6 = .ok (.iconst 2, 1) := by decide +kernel
theorem dX10_score_7 : decode M_X10_score.2.1 7 = .ok (.if_icmp .gt 12, 3) := by decide +kernel
theorem dX10_score_10 : decode M_X10_score.2.1 10 = .ok (.iload_n 2, 1) := by decide +kernel
theorem dX10_score_11 : decode M_X10_score.2.1 11 = .ok (.ifCond .lt 8, 3) := by decide +kernel
theorem dX10_score_14 : decode M_X10_score.2.1 14 = .ok (.iload_n 2, 1) := by decide +kernel
theorem dX10_score_15 : decode M_X10_score.2.1 15 = .ok (.iconst 3, 1) := by decide +kernel
theorem dX10_score_16 : decode M_X10_score.2.1 16 = .ok (.if_icmp .le 5, 3) := by decide +kernel
theorem dX10_score_19 : decode M_X10_score.2.1 19 = .ok (.iconst (-1), 1) := by decide +kernel
theorem dX10_score_20 : decode M_X10_score.2.1 20 = .ok (.ireturn, 1) := by decide +kernel
theorem dX10_score_21 : decode M_X10_score.2.1 21 = .ok (.aload_n 0, 1) := by decide +kernel
theorem dX10_score_22 : decode M_X10_score.2.1 22 = .ok (.invokevirtual 275, 3) := by decide +kernel
theorem dX10_score_25 : decode M_X10_score.2.1 25 = .ok (.istore_n 3, 1) := by decide +kernel
theorem dX10_score_26 : decode M_X10_score.2.1 26 = .ok (.aload_n 0, 1) := by decide +kernel
theorem dX10_score_27 : decode M_X10_score.2.1 27 = .ok (.invokevirtual 348, 3) := by decide +kernel
theorem dX10_score_30 : decode M_X10_score.2.1 30 = .ok (.iconst 0, 1) := by decide +kernel
theorem dX10_score_31 : decode M_X10_score.2.1 31 = .ok (.istore 4, 2) := by decide +kernel
theorem dX10_score_33 : decode M_X10_score.2.1 33 = .ok (.iconst 0, 1) := by decide +kernel
theorem dX10_score_34 : decode M_X10_score.2.1 34 = .ok (.istore 5, 2) := by decide +kernel
theorem dX10_score_36 : decode M_X10_score.2.1 36 = .ok (.iconst 0, 1) := by decide +kernel
theorem dX10_score_37 : decode M_X10_score.2.1 37 = .ok (.istore 6, 2) := by decide +kernel
theorem dX10_score_39 : decode M_X10_score.2.1 39 = .ok (.iconst 0, 1) := by decide +kernel
theorem dX10_score_40 : decode M_X10_score.2.1 40 = .ok (.istore 7, 2) := by decide +kernel
theorem dX10_score_42 : decode M_X10_score.2.1 42 = .ok (.iconst 0, 1) := by decide +kernel
theorem dX10_score_43 : decode M_X10_score.2.1 43 = .ok (.istore 8, 2) := by decide +kernel
theorem dX10_score_45 : decode M_X10_score.2.1 45 = .ok (.iload 8, 2) := by decide +kernel
theorem dX10_score_47 : decode M_X10_score.2.1 47 = .ok (.aload_n 0, 1) := by decide +kernel
theorem dX10_score_48 : decode M_X10_score.2.1 48 = .ok (.getfield 139, 3) := by decide +kernel
theorem dX10_score_51 : decode M_X10_score.2.1 51 = .ok (.aload_n 0, 1) := by decide +kernel
theorem dX10_score_52 : decode M_X10_score.2.1 52 = .ok (.getfield 139, 3) := by decide +kernel
theorem dX10_score_55 : decode M_X10_score.2.1 55 = .ok (.imul, 1) := by decide +kernel
theorem dX10_score_56 : decode M_X10_score.2.1 56 = .ok (.if_icmp .ge 123, 3) := by decide +kernel
theorem dX10_score_59 : decode M_X10_score.2.1 59 = .ok (.iload 4, 2) := by decide +kernel
theorem dX10_score_61 : decode M_X10_score.2.1 61 = .ok (.aload_n 0, 1) := by decide +kernel
theorem dX10_score_62 : decode M_X10_score.2.1 62 = .ok (.iload 8, 2) := by decide +kernel
theorem dX10_score_64 : decode M_X10_score.2.1 64 = .ok (.invokevirtual 345, 3) := by decide +kernel
theorem dX10_score_67 : decode M_X10_score.2.1 67 = .ok (.iload_n 1, 1) := by decide +kernel
theorem dX10_score_68 : decode M_X10_score.2.1 68 = .ok (.if_icmp .ne 7, 3) := by decide +kernel
theorem dX10_score_71 : decode M_X10_score.2.1 71 = .ok (.iconst 1, 1) := by decide +kernel
theorem dX10_score_72 : decode M_X10_score.2.1 72 = .ok (.goto 4, 3) := by decide +kernel
theorem dX10_score_75 : decode M_X10_score.2.1 75 = .ok (.iconst 0, 1) := by decide +kernel
theorem dX10_score_76 : decode M_X10_score.2.1 76 = .ok (.iadd, 1) := by decide +kernel
theorem dX10_score_77 : decode M_X10_score.2.1 77 = .ok (.istore 4, 2) := by decide +kernel
theorem dX10_score_79 : decode M_X10_score.2.1 79 = .ok (.iload 5, 2) := by decide +kernel
theorem dX10_score_81 : decode M_X10_score.2.1 81 = .ok (.aload_n 0, 1) := by decide +kernel
theorem dX10_score_82 : decode M_X10_score.2.1 82 = .ok (.iload 8, 2) := by decide +kernel
theorem dX10_score_84 : decode M_X10_score.2.1 84 = .ok (.invokevirtual 345, 3) := by decide +kernel
theorem dX10_score_87 : decode M_X10_score.2.1 87 = .ok (.ifCond .ne 18, 3) := by decide +kernel
theorem dX10_score_90 : decode M_X10_score.2.1 90 = .ok (.aload_n 0, 1) := by decide +kernel
theorem dX10_score_91 : decode M_X10_score.2.1 91 = .ok (.getfield 102, 3) := by decide +kernel
theorem dX10_score_94 : decode M_X10_score.2.1 94 = .ok (.iload 8, 2) := by decide +kernel
theorem dX10_score_96 : decode M_X10_score.2.1 96 = .ok (.iaload, 1) := by decide +kernel
theorem dX10_score_97 : decode M_X10_score.2.1 97 = .ok (.iload_n 1, 1) := by decide +kernel
theorem dX10_score_98 : decode M_X10_score.2.1 98 = .ok (.if_icmp .ne 7, 3) := by decide +kernel
theorem dX10_score_101 : decode M_X10_score.2.1 101 = .ok (.iconst 1, 1) := by decide +kernel
theorem dX10_score_102 : decode M_X10_score.2.1 102 = .ok (.goto 4, 3) := by decide +kernel
theorem dX10_score_105 : decode M_X10_score.2.1 105 = .ok (.iconst 0, 1) := by decide +kernel
theorem dX10_score_106 : decode M_X10_score.2.1 106 = .ok (.iadd, 1) := by decide +kernel
theorem dX10_score_107 : decode M_X10_score.2.1 107 = .ok (.istore 5, 2) := by decide +kernel
theorem dX10_score_109 : decode M_X10_score.2.1 109 = .ok (.iload 6, 2) := by decide +kernel
theorem dX10_score_111 : decode M_X10_score.2.1 111 = .ok (.aload_n 0, 1) := by decide +kernel
theorem dX10_score_112 : decode M_X10_score.2.1 112 = .ok (.getfield 74, 3) := by decide +kernel
theorem dX10_score_115 : decode M_X10_score.2.1 115 = .ok (.iload 8, 2) := by decide +kernel
theorem dX10_score_117 : decode M_X10_score.2.1 117 = .ok (.baload, 1) := by decide +kernel
theorem dX10_score_118 : decode M_X10_score.2.1 118 = .ok (.ifCond .eq 18, 3) := by decide +kernel
theorem dX10_score_121 : decode M_X10_score.2.1 121 = .ok (.aload_n 0, 1) := by decide +kernel
theorem dX10_score_122 : decode M_X10_score.2.1 122 = .ok (.getfield 46, 3) := by decide +kernel
theorem dX10_score_125 : decode M_X10_score.2.1 125 = .ok (.iload 8, 2) := by decide +kernel
theorem dX10_score_127 : decode M_X10_score.2.1 127 = .ok (.baload, 1) := by decide +kernel
theorem dX10_score_128 : decode M_X10_score.2.1 128 = .ok (.iload_n 1, 1) := by decide +kernel
theorem dX10_score_129 : decode M_X10_score.2.1 129 = .ok (.if_icmp .ne 7, 3) := by decide +kernel
theorem dX10_score_132 : decode M_X10_score.2.1 132 = .ok (.iconst 1, 1) := by decide +kernel
theorem dX10_score_133 : decode M_X10_score.2.1 133 = .ok (.goto 4, 3) := by decide +kernel
theorem dX10_score_136 : decode M_X10_score.2.1 136 = .ok (.iconst 0, 1) := by decide +kernel
theorem dX10_score_137 : decode M_X10_score.2.1 137 = .ok (.iadd, 1) := by decide +kernel
theorem dX10_score_138 : decode M_X10_score.2.1 138 = .ok (.istore 6, 2) := by decide +kernel
theorem dX10_score_140 : decode M_X10_score.2.1 140 = .ok (.iload 7, 2) := by decide +kernel
theorem dX10_score_142 : decode M_X10_score.2.1 142 = .ok (.aload_n 0, 1) := by decide +kernel
theorem dX10_score_143 : decode M_X10_score.2.1 143 = .ok (.getfield 74, 3) := by decide +kernel
theorem dX10_score_146 : decode M_X10_score.2.1 146 = .ok (.iload 8, 2) := by decide +kernel
theorem dX10_score_148 : decode M_X10_score.2.1 148 = .ok (.baload, 1) := by decide +kernel
theorem dX10_score_149 : decode M_X10_score.2.1 149 = .ok (.ifCond .eq 20, 3) := by decide +kernel
theorem dX10_score_152 : decode M_X10_score.2.1 152 = .ok (.aload_n 0, 1) := by decide +kernel
theorem dX10_score_153 : decode M_X10_score.2.1 153 = .ok (.getfield 46, 3) := by decide +kernel
theorem dX10_score_156 : decode M_X10_score.2.1 156 = .ok (.iload 8, 2) := by decide +kernel
theorem dX10_score_158 : decode M_X10_score.2.1 158 = .ok (.baload, 1) := by decide +kernel
theorem dX10_score_159 : decode M_X10_score.2.1 159 = .ok (.iconst 3, 1) := by decide +kernel
theorem dX10_score_160 : decode M_X10_score.2.1 160 = .ok (.iload_n 1, 1) := by decide +kernel
theorem dX10_score_161 : decode M_X10_score.2.1 161 = .ok (.isub, 1) := by decide +kernel
theorem dX10_score_162 : decode M_X10_score.2.1 162 = .ok (.if_icmp .ne 7, 3) := by decide +kernel
theorem dX10_score_165 : decode M_X10_score.2.1 165 = .ok (.iconst 1, 1) := by decide +kernel
theorem dX10_score_166 : decode M_X10_score.2.1 166 = .ok (.goto 4, 3) := by decide +kernel
theorem dX10_score_169 : decode M_X10_score.2.1 169 = .ok (.iconst 0, 1) := by decide +kernel
theorem dX10_score_170 : decode M_X10_score.2.1 170 = .ok (.iadd, 1) := by decide +kernel
theorem dX10_score_171 : decode M_X10_score.2.1 171 = .ok (.istore 7, 2) := by decide +kernel
theorem dX10_score_173 : decode M_X10_score.2.1 173 = .ok (.iinc 8 1, 3) := by decide +kernel
theorem dX10_score_176 : decode M_X10_score.2.1 176 = .ok (.goto (-131), 3) := by decide +kernel
theorem dX10_score_179 : decode M_X10_score.2.1 179 = .ok (.iload_n 2, 1) := by decide +kernel
theorem dX10_score_180 : decode M_X10_score.2.1 180 = .ok (.ifCond .ne 11, 3) := by decide +kernel
theorem dX10_score_183 : decode M_X10_score.2.1 183 = .ok (.iload 4, 2) := by decide +kernel
theorem dX10_score_185 : decode M_X10_score.2.1 185 = .ok (.iload 5, 2) := by decide +kernel
theorem dX10_score_187 : decode M_X10_score.2.1 187 = .ok (.iadd, 1) := by decide +kernel
theorem dX10_score_188 : decode M_X10_score.2.1 188 = .ok (.goto 37, 3) := by decide +kernel
theorem dX10_score_191 : decode M_X10_score.2.1 191 = .ok (.iload_n 2, 1) := by decide +kernel
theorem dX10_score_192 : decode M_X10_score.2.1 192 = .ok (.iconst 1, 1) := by decide +kernel
theorem dX10_score_193 : decode M_X10_score.2.1 193 = .ok (.if_icmp .ne 17, 3) := by decide +kernel
theorem dX10_score_196 : decode M_X10_score.2.1 196 = .ok (.iload 5, 2) := by decide +kernel
theorem dX10_score_198 : decode M_X10_score.2.1 198 = .ok (.aload_n 0, 1) := by decide +kernel
theorem dX10_score_199 : decode M_X10_score.2.1 199 = .ok (.iload_n 1, 1) := by decide +kernel
theorem dX10_score_200 : decode M_X10_score.2.1 200 = .ok (.invokevirtual 351, 3) := by decide +kernel
theorem dX10_score_203 : decode M_X10_score.2.1 203 = .ok (.iadd, 1) := by decide +kernel
theorem dX10_score_204 : decode M_X10_score.2.1 204 = .ok (.iload 7, 2) := by decide +kernel
theorem dX10_score_206 : decode M_X10_score.2.1 206 = .ok (.iadd, 1) := by decide +kernel
theorem dX10_score_207 : decode M_X10_score.2.1 207 = .ok (.goto 18, 3) := by decide +kernel
theorem dX10_score_210 : decode M_X10_score.2.1 210 = .ok (.iload_n 2, 1) := by decide +kernel
theorem dX10_score_211 : decode M_X10_score.2.1 211 = .ok (.iconst 2, 1) := by decide +kernel
theorem dX10_score_212 : decode M_X10_score.2.1 212 = .ok (.if_icmp .ne 11, 3) := by decide +kernel
theorem dX10_score_215 : decode M_X10_score.2.1 215 = .ok (.aload_n 0, 1) := by decide +kernel
theorem dX10_score_216 : decode M_X10_score.2.1 216 = .ok (.iload_n 1, 1) := by decide +kernel
theorem dX10_score_217 : decode M_X10_score.2.1 217 = .ok (.invokevirtual 351, 3) := by decide +kernel
theorem dX10_score_220 : decode M_X10_score.2.1 220 = .ok (.goto 5, 3) := by decide +kernel
theorem dX10_score_223 : decode M_X10_score.2.1 223 = .ok (.iload 6, 2) := by decide +kernel
theorem dX10_score_225 : decode M_X10_score.2.1 225 = .ok (.ireturn, 1) := by decide +kernel
def L_X10_score_45 (X : ZX) (d n : Nat) (P : Option Value → ZSto → Prop) (x1 : Int) (x2 : Int) (x4 : Int) (x5 : Int) (x6 : Int) (x7 : Int) (x8 : Int) (σ : ZSto) : Prop := R32 x1 → R32 x2 → R32 x4 → R32 x5 → R32 x6 → R32 x7 → R32 x8 → ZOk n σ → Zn X M_X10_score d n P 45 [some (.ref (zB X + 73)), some (iV x1), some (iV x2), none, some (iV x4), some (iV x5), some (iV x6), some (iV x7), some (iV x8)] [] σ
def L_X10_score_76 (X : ZX) (d n : Nat) (P : Option Value → ZSto → Prop) (x1 : Int) (x2 : Int) (x5 : Int) (x6 : Int) (x7 : Int) (x8 : Int) (x20 : Int) (x21 : Int) (σ : ZSto) : Prop := R32 x1 → R32 x2 → R32 x5 → R32 x6 → R32 x7 → R32 x8 → R32 x20 → R32 x21 → ZOk n σ → Zn X M_X10_score d n P 76 [some (.ref (zB X + 73)), some (iV x1), some (iV x2), none, none, some (iV x5), some (iV x6), some (iV x7), some (iV x8)] [iV x21, iV x20] σ
def L_X10_score_105 (X : ZX) (d n : Nat) (P : Option Value → ZSto → Prop) (x1 : Int) (x2 : Int) (x4 : Int) (x6 : Int) (x7 : Int) (x8 : Int) (x20 : Int) (σ : ZSto) : Prop := R32 x1 → R32 x2 → R32 x4 → R32 x6 → R32 x7 → R32 x8 → R32 x20 → ZOk n σ → Zn X M_X10_score d n P 105 [some (.ref (zB X + 73)), some (iV x1), some (iV x2), none, some (iV x4), none, some (iV x6), some (iV x7), some (iV x8)] [iV x20] σ
def L_X10_score_106 (X : ZX) (d n : Nat) (P : Option Value → ZSto → Prop) (x1 : Int) (x2 : Int) (x4 : Int) (x6 : Int) (x7 : Int) (x8 : Int) (x20 : Int) (x21 : Int) (σ : ZSto) : Prop := R32 x1 → R32 x2 → R32 x4 → R32 x6 → R32 x7 → R32 x8 → R32 x20 → R32 x21 → ZOk n σ → Zn X M_X10_score d n P 106 [some (.ref (zB X + 73)), some (iV x1), some (iV x2), none, some (iV x4), none, some (iV x6), some (iV x7), some (iV x8)] [iV x21, iV x20] σ
def L_X10_score_136 (X : ZX) (d n : Nat) (P : Option Value → ZSto → Prop) (x1 : Int) (x2 : Int) (x4 : Int) (x5 : Int) (x7 : Int) (x8 : Int) (x20 : Int) (σ : ZSto) : Prop := R32 x1 → R32 x2 → R32 x4 → R32 x5 → R32 x7 → R32 x8 → R32 x20 → ZOk n σ → Zn X M_X10_score d n P 136 [some (.ref (zB X + 73)), some (iV x1), some (iV x2), none, some (iV x4), some (iV x5), none, some (iV x7), some (iV x8)] [iV x20] σ
def L_X10_score_137 (X : ZX) (d n : Nat) (P : Option Value → ZSto → Prop) (x1 : Int) (x2 : Int) (x4 : Int) (x5 : Int) (x7 : Int) (x8 : Int) (x20 : Int) (x21 : Int) (σ : ZSto) : Prop := R32 x1 → R32 x2 → R32 x4 → R32 x5 → R32 x7 → R32 x8 → R32 x20 → R32 x21 → ZOk n σ → Zn X M_X10_score d n P 137 [some (.ref (zB X + 73)), some (iV x1), some (iV x2), none, some (iV x4), some (iV x5), none, some (iV x7), some (iV x8)] [iV x21, iV x20] σ
theorem w_X10_score {X : ZX} {d n : Nat} {P : Int → ZSto → Prop} {x1 : Int} {x2 : Int} {σ : ZSto} (hn : 104 ≤ n)  (hx1 : R32 x1) (hx2 : R32 x2)
    (h : (x1 < 1 → P ((-1)) σ) ∧ (¬ (x1 < 1) → (2 < x1 → P ((-1)) σ) ∧ (¬ (2 < x1) → (x2 < 0 → P ((-1)) σ) ∧ (¬ (x2 < 0) → (x2 ≤ 3 → ZkZ X M_X10_shows d n [.ref (zB X + 73)] σ (fun v16 σ17 => ZkV X M_X10_owners d n [.ref (zB X + 73)] σ17 (fun σ22 => L_X10_score_45 X d n (zpI P) x1 x2 0 0 0 0 0 σ22))) ∧ (¬ (x2 ≤ 3) → P ((-1)) σ))))) :
    ZkI X M_X10_score (d + 1) n [.ref (zB X + 73), iV x1, iV x2] σ P := by
  refine zk_of (ls := [some (.ref (zB X + 73)), some (iV x1), some (iV x2), none, none, none, none, none, none]) pl_RX10 (Nat.le_of_ble_eq_true rfl) rfl (fun k0 => ?_)
  unfold Zn
  refine r_iload_n dX10_score_0 rfl ?_
  refine r_iconst dX10_score_1 ?_
  refine r_icmp_lt (t := 19) dX10_score_2 rfl hx1 (r32c rfl) (fun c1 => ?_) (fun c2 => ?_)
  · have h3 := h.1 c1
    refine r_iconst dX10_score_19 ?_
    exact r_ireturn dX10_score_20 rfl ⟨k0, _, rfl, (r32c rfl), h3⟩
  · have h4 := h.2 c2
    refine r_iload_n dX10_score_5 rfl ?_
    refine r_iconst dX10_score_6 ?_
    refine r_icmp_gt (t := 19) dX10_score_7 rfl hx1 (r32c rfl) (fun c5 => ?_) (fun c6 => ?_)
    · have h7 := h4.1 c5
      refine r_iconst dX10_score_19 ?_
      exact r_ireturn dX10_score_20 rfl ⟨k0, _, rfl, (r32c rfl), h7⟩
    · have h8 := h4.2 c6
      refine r_iload_n dX10_score_10 rfl ?_
      refine r_if_lt (t := 19) dX10_score_11 rfl hx2  (fun c9 => ?_) (fun c10 => ?_)
      · have h11 := h8.1 c9
        refine r_iconst dX10_score_19 ?_
        exact r_ireturn dX10_score_20 rfl ⟨k0, _, rfl, (r32c rfl), h11⟩
      · have h12 := h8.2 c10
        refine r_iload_n dX10_score_14 rfl ?_
        refine r_iconst dX10_score_15 ?_
        refine r_icmp_le (t := 21) dX10_score_16 rfl hx2 (r32c rfl) (fun c13 => ?_) (fun c14 => ?_)
        · have h15 := h12.1 c13
          refine r_aload_n dX10_score_21 rfl ?_
          refine n_callV (N := M_X10_shows) (As := []) (st := []) dX10_score_22 mk_X10_shows km_RX10_275 kd_X10_shows rfl (zlt hn rfl) sh_73 (q := (RX10, TX10, 52)) rfl rfl (zFits_rm d n n n (Nat.le_refl n)) (Nat.le_of_ble_eq_true rfl) rfl k0 h15 ?_
          rintro _ σ17 k18 ⟨v16, rfl, h19, h20⟩
          change Zm _ _ _ _ _ _ 25 _ [iV v16] _
          refine r_istore_n dX10_score_25 rfl rfl ?_
          refine r_aload_n dX10_score_26 rfl ?_
          refine n_callV (N := M_X10_owners) (As := []) (st := []) dX10_score_27 mk_X10_owners km_RX10_348 kd_X10_owners rfl (zlt hn rfl) sh_73 (q := (RX10, TX10, 52)) rfl rfl (zFits_rm d n n n (Nat.le_refl n)) (Nat.le_of_ble_eq_true rfl) rfl k18 h20 ?_
          rintro _ σ22 k23 ⟨rfl, h25⟩
          change Zm _ _ _ _ _ _ 30 _ [] _
          refine r_iconst dX10_score_30 ?_
          refine r_istore dX10_score_31 rfl rfl ?_
          refine r_iconst dX10_score_33 ?_
          refine r_istore dX10_score_34 rfl rfl ?_
          refine r_iconst dX10_score_36 ?_
          refine r_istore dX10_score_37 rfl rfl ?_
          refine r_iconst dX10_score_39 ?_
          refine r_istore dX10_score_40 rfl rfl ?_
          refine r_iconst dX10_score_42 ?_
          refine r_istore dX10_score_43 rfl rfl ?_
          exact r_mask [true, true, true, false, true, true, true, true, true] rfl (h25 hx1 hx2 (r32c rfl) (r32c rfl) (r32c rfl) (r32c rfl) (r32c rfl) k23)
        · have h26 := h12.2 c14
          refine r_iconst dX10_score_19 ?_
          exact r_ireturn dX10_score_20 rfl ⟨k0, _, rfl, (r32c rfl), h26⟩
theorem b_X10_score_45 {X : ZX} {d n : Nat} {P : Int → ZSto → Prop} {x1 : Int} {x2 : Int} {x4 : Int} {x5 : Int} {x6 : Int} {x7 : Int} {x8 : Int} {σ : ZSto} (hn : 104 ≤ n) 
    (h : R32 ((gI σ 73 13) * (gI σ 73 13)) ∧ ((gI σ 73 13) * (gI σ 73 13) ≤ x8 → (¬ x2 = 0 → (¬ x2 = 1 → (¬ x2 = 2 → P x6 σ) ∧ (x2 = 2 → ZkI X M_X10_taken d n [.ref (zB X + 73), iV x1] σ (fun v16 σ17 => P v16 σ17))) ∧ (x2 = 1 → ZkI X M_X10_taken d n [.ref (zB X + 73), iV x1] σ (fun v22 σ23 => R32 ((x5 + v22) + x7) ∧ P ((x5 + v22) + x7) σ23))) ∧ (x2 = 0 → R32 (x4 + x5) ∧ P (x4 + x5) σ)) ∧ (¬ ((gI σ 73 13) * (gI σ 73 13) ≤ x8) → ZkI X M_X10_counts d n [.ref (zB X + 73), iV x8] σ (fun v33 σ34 => (¬ v33 = x1 → L_X10_score_76 X d n (zpI P) x1 x2 x5 x6 x7 x8 x4 0 σ34) ∧ (v33 = x1 → L_X10_score_76 X d n (zpI P) x1 x2 x5 x6 x7 x8 x4 1 σ34)))) :
    L_X10_score_45 X d n (zpI P) x1 x2 x4 x5 x6 x7 x8 σ := by
  intro hx1 hx2 hx4 hx5 hx6 hx7 hx8 k0
  unfold Zn
  refine r_iload dX10_score_45 rfl ?_
  refine r_aload_n dX10_score_47 rfl ?_
  refine r_getI dX10_score_48 kf_RX10_139 (zlt hn rfl) sh_73 (Or.inl rfl) rfl ?_
  refine r_aload_n dX10_score_51 rfl ?_
  refine r_getI dX10_score_52 kf_RX10_139 (zlt hn rfl) sh_73 (Or.inl rfl) rfl ?_
  refine r_imul dX10_score_55 ?_
  obtain ⟨h1, h2⟩ := h
  refine r_icmp_ge (t := 179) dX10_score_56 rfl hx8 h1 (fun c3 => ?_) (fun c4 => ?_)
  · have h5 := h2.1 c3
    refine r_iload_n dX10_score_179 rfl ?_
    refine r_if_ne (t := 191) dX10_score_180 rfl hx2  (fun c6 => ?_) (fun c7 => ?_)
    · have h8 := h5.1 c6
      refine r_iload_n dX10_score_191 rfl ?_
      refine r_iconst dX10_score_192 ?_
      refine r_icmp_ne (t := 210) dX10_score_193 rfl hx2 (r32c rfl) (fun c9 => ?_) (fun c10 => ?_)
      · have h11 := h8.1 c9
        refine r_iload_n dX10_score_210 rfl ?_
        refine r_iconst dX10_score_211 ?_
        refine r_icmp_ne (t := 223) dX10_score_212 rfl hx2 (r32c rfl) (fun c12 => ?_) (fun c13 => ?_)
        · have h14 := h11.1 c12
          refine r_iload dX10_score_223 rfl ?_
          exact r_ireturn dX10_score_225 rfl ⟨k0, _, rfl, hx6, h14⟩
        · have h15 := h11.2 c13
          refine r_aload_n dX10_score_215 rfl ?_
          refine r_iload_n dX10_score_216 rfl ?_
          refine n_callV (N := M_X10_taken) (As := [iV x1]) (st := []) dX10_score_217 mk_X10_taken km_RX10_351 kd_X10_taken rfl (zlt hn rfl) sh_73 (q := (RX10, TX10, 52)) rfl rfl (zFits_rm d n n n (Nat.le_refl n)) (Nat.le_of_ble_eq_true rfl) rfl k0 h15 ?_
          rintro _ σ17 k18 ⟨v16, rfl, h19, h20⟩
          change Zm _ _ _ _ _ _ 220 _ [iV v16] _
          refine r_goto (t := 225) dX10_score_220 rfl ?_
          exact r_ireturn dX10_score_225 rfl ⟨k18, _, rfl, h19, h20⟩
      · have h21 := h8.2 c10
        refine r_iload dX10_score_196 rfl ?_
        refine r_aload_n dX10_score_198 rfl ?_
        refine r_iload_n dX10_score_199 rfl ?_
        refine n_callV (N := M_X10_taken) (As := [iV x1]) (st := [iV x5]) dX10_score_200 mk_X10_taken km_RX10_351 kd_X10_taken rfl (zlt hn rfl) sh_73 (q := (RX10, TX10, 52)) rfl rfl (zFits_rm d n n n (Nat.le_refl n)) (Nat.le_of_ble_eq_true rfl) rfl k0 h21 ?_
        rintro _ σ23 k24 ⟨v22, rfl, h25, h26⟩
        change Zm _ _ _ _ _ _ 203 _ [iV v22, iV x5] _
        refine r_iadd dX10_score_203 ?_
        refine r_iload dX10_score_204 rfl ?_
        refine r_iadd dX10_score_206 ?_
        refine r_goto (t := 225) dX10_score_207 rfl ?_
        obtain ⟨h27, h28⟩ := h26
        exact r_ireturn dX10_score_225 rfl ⟨k24, _, rfl, h27, h28⟩
    · have h29 := h5.2 c7
      refine r_iload dX10_score_183 rfl ?_
      refine r_iload dX10_score_185 rfl ?_
      refine r_iadd dX10_score_187 ?_
      refine r_goto (t := 225) dX10_score_188 rfl ?_
      obtain ⟨h30, h31⟩ := h29
      exact r_ireturn dX10_score_225 rfl ⟨k0, _, rfl, h30, h31⟩
  · have h32 := h2.2 c4
    refine r_iload dX10_score_59 rfl ?_
    refine r_aload_n dX10_score_61 rfl ?_
    refine r_iload dX10_score_62 rfl ?_
    refine n_callV (N := M_X10_counts) (As := [iV x8]) (st := [iV x4]) dX10_score_64 mk_X10_counts km_RX10_345 kd_X10_counts rfl (zlt hn rfl) sh_73 (q := (RX10, TX10, 52)) rfl rfl (zFits_rm d n n n (Nat.le_refl n)) (Nat.le_of_ble_eq_true rfl) rfl k0 h32 ?_
    rintro _ σ34 k35 ⟨v33, rfl, h36, h37⟩
    change Zm _ _ _ _ _ _ 67 _ [iV v33, iV x4] _
    refine r_iload_n dX10_score_67 rfl ?_
    refine r_icmp_ne (t := 75) dX10_score_68 rfl h36 hx1 (fun c38 => ?_) (fun c39 => ?_)
    · have h40 := h37.1 c38
      refine r_iconst dX10_score_75 ?_
      exact r_mask [true, true, true, false, false, true, true, true, true] rfl (h40 hx1 hx2 hx5 hx6 hx7 hx8 hx4 (r32c rfl) k35)
    · have h41 := h37.2 c39
      refine r_iconst dX10_score_71 ?_
      refine r_goto (t := 76) dX10_score_72 rfl ?_
      exact r_mask [true, true, true, false, false, true, true, true, true] rfl (h41 hx1 hx2 hx5 hx6 hx7 hx8 hx4 (r32c rfl) k35)
theorem b_X10_score_76 {X : ZX} {d n : Nat} {P : Int → ZSto → Prop} {x1 : Int} {x2 : Int} {x5 : Int} {x6 : Int} {x7 : Int} {x8 : Int} {x20 : Int} {x21 : Int} {σ : ZSto} (hn : 104 ≤ n) 
    (h : ZkI X M_X10_counts d n [.ref (zB X + 73), iV x8] σ (fun v1 σ2 => (¬ v1 = 0 → R32 (x20 + x21) ∧ L_X10_score_105 X d n (zpI P) x1 x2 (x20 + x21) x6 x7 x8 x5 σ2) ∧ (v1 = 0 → (0 ≤ x8 ∧ x8 < 81) ∧ (¬ gI σ2 99 x8.toNat = x1 → R32 (x20 + x21) ∧ L_X10_score_105 X d n (zpI P) x1 x2 (x20 + x21) x6 x7 x8 x5 σ2) ∧ (gI σ2 99 x8.toNat = x1 → R32 (x20 + x21) ∧ L_X10_score_106 X d n (zpI P) x1 x2 (x20 + x21) x6 x7 x8 x5 1 σ2)))) :
    L_X10_score_76 X d n (zpI P) x1 x2 x5 x6 x7 x8 x20 x21 σ := by
  intro hx1 hx2 hx5 hx6 hx7 hx8 hx20 hx21 k0
  unfold Zn
  refine r_iadd dX10_score_76 ?_
  refine r_istore dX10_score_77 rfl rfl ?_
  refine r_iload dX10_score_79 rfl ?_
  refine r_aload_n dX10_score_81 rfl ?_
  refine r_iload dX10_score_82 rfl ?_
  refine n_callV (N := M_X10_counts) (As := [iV x8]) (st := [iV x5]) dX10_score_84 mk_X10_counts km_RX10_345 kd_X10_counts rfl (zlt hn rfl) sh_73 (q := (RX10, TX10, 52)) rfl rfl (zFits_rm d n n n (Nat.le_refl n)) (Nat.le_of_ble_eq_true rfl) rfl k0 h ?_
  rintro _ σ2 k3 ⟨v1, rfl, h4, h5⟩
  change Zm _ _ _ _ _ _ 87 _ [iV v1, iV x5] _
  refine r_if_ne (t := 105) dX10_score_87 rfl h4  (fun c6 => ?_) (fun c7 => ?_)
  · have h8 := h5.1 c6
    obtain ⟨h9, h10⟩ := h8
    exact r_mask [true, true, true, false, true, false, true, true, true] rfl (h10 hx1 hx2 h9 hx6 hx7 hx8 hx5 k3)
  · have h11 := h5.2 c7
    refine r_aload_n dX10_score_90 rfl ?_
    refine r_getP (a := 99) dX10_score_91 kf_RX10_102 (zlt hn rfl) sh_73 rfl (k3.1 _ _ _ (zlt hn rfl) p_73_46) ?_
    refine r_iload dX10_score_94 rfl ?_
    obtain ⟨h12, h13⟩ := h11
    refine r_ialoadE dX10_score_96 (zlt hn rfl) sh_99 h12.1 h12.2 rfl ?_
    refine r_iload_n dX10_score_97 rfl ?_
    refine r_icmp_ne (t := 105) dX10_score_98 rfl (k3.2.1 _ _) hx1 (fun c14 => ?_) (fun c15 => ?_)
    · have h16 := h13.1 c14
      obtain ⟨h17, h18⟩ := h16
      exact r_mask [true, true, true, false, true, false, true, true, true] rfl (h18 hx1 hx2 h17 hx6 hx7 hx8 hx5 k3)
    · have h19 := h13.2 c15
      refine r_iconst dX10_score_101 ?_
      refine r_goto (t := 106) dX10_score_102 rfl ?_
      obtain ⟨h20, h21⟩ := h19
      exact r_mask [true, true, true, false, true, false, true, true, true] rfl (h21 hx1 hx2 h20 hx6 hx7 hx8 hx5 (r32c rfl) k3)
theorem b_X10_score_105 {X : ZX} {d n : Nat} {P : Int → ZSto → Prop} {x1 : Int} {x2 : Int} {x4 : Int} {x6 : Int} {x7 : Int} {x8 : Int} {x20 : Int} {σ : ZSto} (hn : 104 ≤ n) 
    (h : L_X10_score_106 X d n (zpI P) x1 x2 x4 x6 x7 x8 x20 0 σ) :
    L_X10_score_105 X d n (zpI P) x1 x2 x4 x6 x7 x8 x20 σ := by
  intro hx1 hx2 hx4 hx6 hx7 hx8 hx20 k0
  unfold Zn
  refine r_iconst dX10_score_105 ?_
  exact r_mask [true, true, true, false, true, false, true, true, true] rfl (h hx1 hx2 hx4 hx6 hx7 hx8 hx20 (r32c rfl) k0)
theorem b_X10_score_106 {X : ZX} {d n : Nat} {P : Int → ZSto → Prop} {x1 : Int} {x2 : Int} {x4 : Int} {x6 : Int} {x7 : Int} {x8 : Int} {x20 : Int} {x21 : Int} {σ : ZSto} (hn : 104 ≤ n) 
    (h : (0 ≤ x8 ∧ x8 < 81) ∧ (gI σ 92 x8.toNat = 0 → R32 (x20 + x21) ∧ L_X10_score_136 X d n (zpI P) x1 x2 x4 (x20 + x21) x7 x8 x6 σ) ∧ (¬ (gI σ 92 x8.toNat = 0) → (¬ gI σ 84 x8.toNat = x1 → R32 (x20 + x21) ∧ L_X10_score_136 X d n (zpI P) x1 x2 x4 (x20 + x21) x7 x8 x6 σ) ∧ (gI σ 84 x8.toNat = x1 → R32 (x20 + x21) ∧ L_X10_score_137 X d n (zpI P) x1 x2 x4 (x20 + x21) x7 x8 x6 1 σ))) :
    L_X10_score_106 X d n (zpI P) x1 x2 x4 x6 x7 x8 x20 x21 σ := by
  intro hx1 hx2 hx4 hx6 hx7 hx8 hx20 hx21 k0
  unfold Zn
  refine r_iadd dX10_score_106 ?_
  refine r_istore dX10_score_107 rfl rfl ?_
  refine r_iload dX10_score_109 rfl ?_
  refine r_aload_n dX10_score_111 rfl ?_
  refine r_getP (a := 92) dX10_score_112 kf_RX10_74 (zlt hn rfl) sh_73 rfl (k0.1 _ _ _ (zlt hn rfl) p_73_33) ?_
  refine r_iload dX10_score_115 rfl ?_
  obtain ⟨h1, h2⟩ := h
  refine r_zaloadE dX10_score_117 (zlt hn rfl) sh_92 h1.1 h1.2 rfl ?_
  refine r_if_eq (t := 136) dX10_score_118 rfl (k0.2.1 _ _)  (fun c3 => ?_) (fun c4 => ?_)
  · have h5 := h2.1 c3
    obtain ⟨h6, h7⟩ := h5
    exact r_mask [true, true, true, false, true, true, false, true, true] rfl (h7 hx1 hx2 hx4 h6 hx7 hx8 hx6 k0)
  · have h8 := h2.2 c4
    refine r_aload_n dX10_score_121 rfl ?_
    refine r_getP (a := 84) dX10_score_122 kf_RX10_46 (zlt hn rfl) sh_73 rfl (k0.1 _ _ _ (zlt hn rfl) p_73_14) ?_
    refine r_iload dX10_score_125 rfl ?_
    refine r_baloadE dX10_score_127 (zlt hn rfl) sh_84 h1.1 h1.2 rfl ?_
    refine r_iload_n dX10_score_128 rfl ?_
    refine r_icmp_ne (t := 136) dX10_score_129 rfl (k0.2.1 _ _) hx1 (fun c9 => ?_) (fun c10 => ?_)
    · have h11 := h8.1 c9
      obtain ⟨h12, h13⟩ := h11
      exact r_mask [true, true, true, false, true, true, false, true, true] rfl (h13 hx1 hx2 hx4 h12 hx7 hx8 hx6 k0)
    · have h14 := h8.2 c10
      refine r_iconst dX10_score_132 ?_
      refine r_goto (t := 137) dX10_score_133 rfl ?_
      obtain ⟨h15, h16⟩ := h14
      exact r_mask [true, true, true, false, true, true, false, true, true] rfl (h16 hx1 hx2 hx4 h15 hx7 hx8 hx6 (r32c rfl) k0)
theorem b_X10_score_136 {X : ZX} {d n : Nat} {P : Int → ZSto → Prop} {x1 : Int} {x2 : Int} {x4 : Int} {x5 : Int} {x7 : Int} {x8 : Int} {x20 : Int} {σ : ZSto} (hn : 104 ≤ n) 
    (h : L_X10_score_137 X d n (zpI P) x1 x2 x4 x5 x7 x8 x20 0 σ) :
    L_X10_score_136 X d n (zpI P) x1 x2 x4 x5 x7 x8 x20 σ := by
  intro hx1 hx2 hx4 hx5 hx7 hx8 hx20 k0
  unfold Zn
  refine r_iconst dX10_score_136 ?_
  exact r_mask [true, true, true, false, true, true, false, true, true] rfl (h hx1 hx2 hx4 hx5 hx7 hx8 hx20 (r32c rfl) k0)
theorem b_X10_score_137 {X : ZX} {d n : Nat} {P : Int → ZSto → Prop} {x1 : Int} {x2 : Int} {x4 : Int} {x5 : Int} {x7 : Int} {x8 : Int} {x20 : Int} {x21 : Int} {σ : ZSto} (hn : 104 ≤ n) 
    (h : (0 ≤ x8 ∧ x8 < 81) ∧ (gI σ 92 x8.toNat = 0 → R32 (x20 + x21) ∧ R32 (x7 + 0) ∧ R32 (x8 + 1) ∧ L_X10_score_45 X d n (zpI P) x1 x2 x4 x5 (x20 + x21) (x7 + 0) (x8 + 1) σ) ∧ (¬ (gI σ 92 x8.toNat = 0) → R32 (3 - x1) ∧ (¬ gI σ 84 x8.toNat = 3 - x1 → R32 (x20 + x21) ∧ R32 (x7 + 0) ∧ R32 (x8 + 1) ∧ L_X10_score_45 X d n (zpI P) x1 x2 x4 x5 (x20 + x21) (x7 + 0) (x8 + 1) σ) ∧ (gI σ 84 x8.toNat = 3 - x1 → R32 (x20 + x21) ∧ R32 (x7 + 1) ∧ R32 (x8 + 1) ∧ L_X10_score_45 X d n (zpI P) x1 x2 x4 x5 (x20 + x21) (x7 + 1) (x8 + 1) σ))) :
    L_X10_score_137 X d n (zpI P) x1 x2 x4 x5 x7 x8 x20 x21 σ := by
  intro hx1 hx2 hx4 hx5 hx7 hx8 hx20 hx21 k0
  unfold Zn
  refine r_iadd dX10_score_137 ?_
  refine r_istore dX10_score_138 rfl rfl ?_
  refine r_iload dX10_score_140 rfl ?_
  refine r_aload_n dX10_score_142 rfl ?_
  refine r_getP (a := 92) dX10_score_143 kf_RX10_74 (zlt hn rfl) sh_73 rfl (k0.1 _ _ _ (zlt hn rfl) p_73_33) ?_
  refine r_iload dX10_score_146 rfl ?_
  obtain ⟨h1, h2⟩ := h
  refine r_zaloadE dX10_score_148 (zlt hn rfl) sh_92 h1.1 h1.2 rfl ?_
  refine r_if_eq (t := 169) dX10_score_149 rfl (k0.2.1 _ _)  (fun c3 => ?_) (fun c4 => ?_)
  · have h5 := h2.1 c3
    refine r_iconst dX10_score_169 ?_
    refine r_iadd dX10_score_170 ?_
    refine r_istore dX10_score_171 rfl rfl ?_
    refine r_iinc dX10_score_173 rfl rfl rfl ?_
    refine r_goto (t := 45) dX10_score_176 rfl ?_
    obtain ⟨h6, h7⟩ := h5
    obtain ⟨h8, h9⟩ := h7
    obtain ⟨h10, h11⟩ := h9
    exact r_mask [true, true, true, false, true, true, true, true, true] rfl (h11 hx1 hx2 hx4 hx5 h6 h8 h10 k0)
  · have h12 := h2.2 c4
    refine r_aload_n dX10_score_152 rfl ?_
    refine r_getP (a := 84) dX10_score_153 kf_RX10_46 (zlt hn rfl) sh_73 rfl (k0.1 _ _ _ (zlt hn rfl) p_73_14) ?_
    refine r_iload dX10_score_156 rfl ?_
    refine r_baloadE dX10_score_158 (zlt hn rfl) sh_84 h1.1 h1.2 rfl ?_
    refine r_iconst dX10_score_159 ?_
    refine r_iload_n dX10_score_160 rfl ?_
    refine r_isub dX10_score_161 ?_
    obtain ⟨h13, h14⟩ := h12
    refine r_icmp_ne (t := 169) dX10_score_162 rfl (k0.2.1 _ _) h13 (fun c15 => ?_) (fun c16 => ?_)
    · have h17 := h14.1 c15
      refine r_iconst dX10_score_169 ?_
      refine r_iadd dX10_score_170 ?_
      refine r_istore dX10_score_171 rfl rfl ?_
      refine r_iinc dX10_score_173 rfl rfl rfl ?_
      refine r_goto (t := 45) dX10_score_176 rfl ?_
      obtain ⟨h18, h19⟩ := h17
      obtain ⟨h20, h21⟩ := h19
      obtain ⟨h22, h23⟩ := h21
      exact r_mask [true, true, true, false, true, true, true, true, true] rfl (h23 hx1 hx2 hx4 hx5 h18 h20 h22 k0)
    · have h24 := h14.2 c16
      refine r_iconst dX10_score_165 ?_
      refine r_goto (t := 170) dX10_score_166 rfl ?_
      refine r_iadd dX10_score_170 ?_
      refine r_istore dX10_score_171 rfl rfl ?_
      refine r_iinc dX10_score_173 rfl rfl rfl ?_
      refine r_goto (t := 45) dX10_score_176 rfl ?_
      obtain ⟨h25, h26⟩ := h24
      obtain ⟨h27, h28⟩ := h26
      obtain ⟨h29, h30⟩ := h28
      exact r_mask [true, true, true, false, true, true, true, true, true] rfl (h30 hx1 hx2 hx4 hx5 h25 h27 h29 k0)
/-! StoneRoomModel.ahead -/
theorem dX10_ahead_0 : decode M_X10_ahead.2.1 0 = .ok (.iload_n 1, 1) := by decide +kernel
theorem dX10_ahead_1 : decode M_X10_ahead.2.1 1 = .ok (.ifCond .eq 8, 3) := by decide +kernel
theorem dX10_ahead_4 : decode M_X10_ahead.2.1 4 = .ok (.iload_n 1, 1) := by decide +kernel
theorem dX10_ahead_5 : decode M_X10_ahead.2.1 5 = .ok (.iconst 1, 1) := by decide +kernel
theorem dX10_ahead_6 : decode M_X10_ahead.2.1 6 = .ok (.if_icmp .ne 31, 3) := by decide +kernel
theorem dX10_ahead_9 : decode M_X10_ahead.2.1 9 = .ok (.iconst 2, 1) := by decide +kernel
theorem dX10_ahead_10 : decode M_X10_ahead.2.1 10 = .ok (.aload_n 0, 1) := by decide +kernel
theorem dX10_ahead_11 : decode M_X10_ahead.2.1 11 = .ok (.iconst 1, 1) := by decide +kernel
theorem dX10_ahead_12 : decode M_X10_ahead.2.1 12 = .ok (.iload_n 1, 1) := by decide +kernel
theorem dX10_ahead_13 : decode M_X10_ahead.2.1 13 = .ok (.invokevirtual 353, 3) := by decide +kernel
theorem dX10_ahead_16 : decode M_X10_ahead.2.1 16 = .ok (.aload_n 0, 1) := by decide +kernel
theorem dX10_ahead_17 : decode M_X10_ahead.2.1 17 = .ok (.iconst 2, 1) := by decide +kernel
theorem dX10_ahead_18 : decode M_X10_ahead.2.1 18 = .ok (.iload_n 1, 1) := by decide +kernel
theorem dX10_ahead_19 : decode M_X10_ahead.2.1 19 = .ok (.invokevirtual 353, 3) := by decide +kernel
theorem dX10_ahead_22 : decode M_X10_ahead.2.1 22 = .ok (.isub, 1) := by decide +kernel
theorem dX10_ahead_23 : decode M_X10_ahead.2.1 23 = .ok (.imul, 1) := by decide +kernel
theorem dX10_ahead_24 : decode M_X10_ahead.2.1 24 = .ok (.aload_n 0, 1) := by decide +kernel
theorem dX10_ahead_25 : decode M_X10_ahead.2.1 25 = .ok (.getfield 39, 3) := by decide +kernel
theorem dX10_ahead_28 : decode M_X10_ahead.2.1 28 = .ok (.aload_n 0, 1) := by decide +kernel
theorem dX10_ahead_29 : decode M_X10_ahead.2.1 29 = .ok (.getfield 170, 3) := by decide +kernel
theorem dX10_ahead_32 : decode M_X10_ahead.2.1 32 = .ok (.iaload, 1) := by decide +kernel
theorem dX10_ahead_33 : decode M_X10_ahead.2.1 33 = .ok (.isub, 1) := by decide +kernel
theorem dX10_ahead_34 : decode M_X10_ahead.2.1 34 = .ok (.goto 4, 3) := by decide +kernel
theorem dX10_ahead_37 : decode M_X10_ahead.2.1 37 = .ok (.iconst 0, 1) := by decide +kernel
theorem dX10_ahead_38 : decode M_X10_ahead.2.1 38 = .ok (.ireturn, 1) := by decide +kernel
theorem w_X10_ahead {X : ZX} {d n : Nat} {P : Int → ZSto → Prop} {x1 : Int} {σ : ZSto} (hn : 104 ≤ n)  (hx1 : R32 x1)
    (h : (x1 = 0 → ZkI X M_X10_score d n [.ref (zB X + 73), iV 1, iV x1] σ (fun v4 σ5 => ZkI X M_X10_score d n [.ref (zB X + 73), iV 2, iV x1] σ5 (fun v9 σ10 => (0 ≤ gI σ10 73 10 ∧ gI σ10 73 10 < 2) ∧ R32 ((2 * (v4 - v9)) - (gI σ10 83 ((gI σ10 73 10).toNat))) ∧ P ((2 * (v4 - v9)) - (gI σ10 83 ((gI σ10 73 10).toNat))) σ10))) ∧ (¬ (x1 = 0) → (¬ x1 = 1 → P 0 σ) ∧ (x1 = 1 → ZkI X M_X10_score d n [.ref (zB X + 73), iV 1, iV x1] σ (fun v23 σ24 => ZkI X M_X10_score d n [.ref (zB X + 73), iV 2, iV x1] σ24 (fun v28 σ29 => (0 ≤ gI σ29 73 10 ∧ gI σ29 73 10 < 2) ∧ R32 ((2 * (v23 - v28)) - (gI σ29 83 ((gI σ29 73 10).toNat))) ∧ P ((2 * (v23 - v28)) - (gI σ29 83 ((gI σ29 73 10).toNat))) σ29))))) :
    ZkI X M_X10_ahead (d + 1) n [.ref (zB X + 73), iV x1] σ P := by
  refine zk_of (ls := [some (.ref (zB X + 73)), some (iV x1)]) pl_RX10 (Nat.le_of_ble_eq_true rfl) rfl (fun k0 => ?_)
  unfold Zn
  refine r_iload_n dX10_ahead_0 rfl ?_
  refine r_if_eq (t := 9) dX10_ahead_1 rfl hx1  (fun c1 => ?_) (fun c2 => ?_)
  · have h3 := h.1 c1
    refine r_iconst dX10_ahead_9 ?_
    refine r_aload_n dX10_ahead_10 rfl ?_
    refine r_iconst dX10_ahead_11 ?_
    refine r_iload_n dX10_ahead_12 rfl ?_
    refine n_callV (N := M_X10_score) (As := [iV 1, iV x1]) (st := [iV 2]) dX10_ahead_13 mk_X10_score km_RX10_353 kd_X10_score rfl (zlt hn rfl) sh_73 (q := (RX10, TX10, 52)) rfl rfl (zFits_rm d n n n (Nat.le_refl n)) (Nat.le_of_ble_eq_true rfl) rfl k0 h3 ?_
    rintro _ σ5 k6 ⟨v4, rfl, h7, h8⟩
    change Zm _ _ _ _ _ _ 16 _ [iV v4, iV 2] _
    refine r_aload_n dX10_ahead_16 rfl ?_
    refine r_iconst dX10_ahead_17 ?_
    refine r_iload_n dX10_ahead_18 rfl ?_
    refine n_callV (N := M_X10_score) (As := [iV 2, iV x1]) (st := [iV v4, iV 2]) dX10_ahead_19 mk_X10_score km_RX10_353 kd_X10_score rfl (zlt hn rfl) sh_73 (q := (RX10, TX10, 52)) rfl rfl (zFits_rm d n n n (Nat.le_refl n)) (Nat.le_of_ble_eq_true rfl) rfl k6 h8 ?_
    rintro _ σ10 k11 ⟨v9, rfl, h12, h13⟩
    change Zm _ _ _ _ _ _ 22 _ [iV v9, iV v4, iV 2] _
    refine r_isub dX10_ahead_22 ?_
    refine r_imul dX10_ahead_23 ?_
    refine r_aload_n dX10_ahead_24 rfl ?_
    refine r_getP (a := 83) dX10_ahead_25 kf_RX10_39 (zlt hn rfl) sh_73 rfl (k11.1 _ _ _ (zlt hn rfl) p_73_9) ?_
    refine r_aload_n dX10_ahead_28 rfl ?_
    refine r_getI dX10_ahead_29 kf_RX10_170 (zlt hn rfl) sh_73 (Or.inl rfl) rfl ?_
    obtain ⟨h14, h15⟩ := h13
    refine r_ialoadE dX10_ahead_32 (zlt hn rfl) sh_83 h14.1 h14.2 rfl ?_
    refine r_isub dX10_ahead_33 ?_
    refine r_goto (t := 38) dX10_ahead_34 rfl ?_
    obtain ⟨h16, h17⟩ := h15
    exact r_ireturn dX10_ahead_38 rfl ⟨k11, _, rfl, h16, h17⟩
  · have h18 := h.2 c2
    refine r_iload_n dX10_ahead_4 rfl ?_
    refine r_iconst dX10_ahead_5 ?_
    refine r_icmp_ne (t := 37) dX10_ahead_6 rfl hx1 (r32c rfl) (fun c19 => ?_) (fun c20 => ?_)
    · have h21 := h18.1 c19
      refine r_iconst dX10_ahead_37 ?_
      exact r_ireturn dX10_ahead_38 rfl ⟨k0, _, rfl, (r32c rfl), h21⟩
    · have h22 := h18.2 c20
      refine r_iconst dX10_ahead_9 ?_
      refine r_aload_n dX10_ahead_10 rfl ?_
      refine r_iconst dX10_ahead_11 ?_
      refine r_iload_n dX10_ahead_12 rfl ?_
      refine n_callV (N := M_X10_score) (As := [iV 1, iV x1]) (st := [iV 2]) dX10_ahead_13 mk_X10_score km_RX10_353 kd_X10_score rfl (zlt hn rfl) sh_73 (q := (RX10, TX10, 52)) rfl rfl (zFits_rm d n n n (Nat.le_refl n)) (Nat.le_of_ble_eq_true rfl) rfl k0 h22 ?_
      rintro _ σ24 k25 ⟨v23, rfl, h26, h27⟩
      change Zm _ _ _ _ _ _ 16 _ [iV v23, iV 2] _
      refine r_aload_n dX10_ahead_16 rfl ?_
      refine r_iconst dX10_ahead_17 ?_
      refine r_iload_n dX10_ahead_18 rfl ?_
      refine n_callV (N := M_X10_score) (As := [iV 2, iV x1]) (st := [iV v23, iV 2]) dX10_ahead_19 mk_X10_score km_RX10_353 kd_X10_score rfl (zlt hn rfl) sh_73 (q := (RX10, TX10, 52)) rfl rfl (zFits_rm d n n n (Nat.le_refl n)) (Nat.le_of_ble_eq_true rfl) rfl k25 h27 ?_
      rintro _ σ29 k30 ⟨v28, rfl, h31, h32⟩
      change Zm _ _ _ _ _ _ 22 _ [iV v28, iV v23, iV 2] _
      refine r_isub dX10_ahead_22 ?_
      refine r_imul dX10_ahead_23 ?_
      refine r_aload_n dX10_ahead_24 rfl ?_
      refine r_getP (a := 83) dX10_ahead_25 kf_RX10_39 (zlt hn rfl) sh_73 rfl (k30.1 _ _ _ (zlt hn rfl) p_73_9) ?_
      refine r_aload_n dX10_ahead_28 rfl ?_
      refine r_getI dX10_ahead_29 kf_RX10_170 (zlt hn rfl) sh_73 (Or.inl rfl) rfl ?_
      obtain ⟨h33, h34⟩ := h32
      refine r_ialoadE dX10_ahead_32 (zlt hn rfl) sh_83 h33.1 h33.2 rfl ?_
      refine r_isub dX10_ahead_33 ?_
      refine r_goto (t := 38) dX10_ahead_34 rfl ?_
      obtain ⟨h35, h36⟩ := h34
      exact r_ireturn dX10_ahead_38 rfl ⟨k30, _, rfl, h35, h36⟩
/-! StoneRoomModel.clocks -/
theorem dX10_clocks_0 : decode M_X10_clocks.2.1 0 = .ok (.iload_n 1, 1) := by decide +kernel
theorem dX10_clocks_1 : decode M_X10_clocks.2.1 1 = .ok (.ifCond .lt 40, 3) := by decide +kernel
theorem dX10_clocks_4 : decode M_X10_clocks.2.1 4 = .ok (.iload_n 1, 1) := by decide +kernel
theorem dX10_clocks_5 : decode M_X10_clocks.2.1 5 = .ok (.ldc_w 356, 3) := by decide +kernel
theorem dX10_clocks_8 : decode M_X10_clocks.2.1 8 = .ok (.if_icmp .gt 33, 3) := by decide +kernel
theorem dX10_clocks_11 : decode M_X10_clocks.2.1 11 = .ok (.iload_n 2, 1) := by decide +kernel
theorem dX10_clocks_12 : decode M_X10_clocks.2.1 12 = .ok (.ifCond .lt 29, 3) := by decide +kernel
theorem dX10_clocks_15 : decode M_X10_clocks.2.1 15 = .ok (.iload_n 2, 1) := by decide +kernel
theorem dX10_clocks_16 : decode M_X10_clocks.2.1 16 = .ok (.ldc_w 356, 3) := by decide +kernel
theorem dX10_clocks_19 : decode M_X10_clocks.2.1 19 = .ok (.if_icmp .gt 22, 3) := by decide +kernel
theorem dX10_clocks_22 : decode M_X10_clocks.2.1 22 = .ok (.iload_n 3, 1) := by decide +kernel
theorem dX10_clocks_23 : decode M_X10_clocks.2.1 23 = .ok (.ifCond .lt 18, 3) := by decide +kernel
theorem dX10_clocks_26 : decode M_X10_clocks.2.1 26 = .ok (.iload_n 3, 1) := by decide +kernel
theorem dX10_clocks_27 : decode M_X10_clocks.2.1 27 = .ok (.ldc_w 356, 3) := by decide +kernel
theorem dX10_clocks_30 : decode M_X10_clocks.2.1 30 = .ok (.if_icmp .gt 11, 3) := by decide +kernel
theorem dX10_clocks_33 : decode M_X10_clocks.2.1 33 = .ok (.iload_n 2, 1) := by decide +kernel
theorem dX10_clocks_34 : decode M_X10_clocks.2.1 34 = .ok (.ifCond .le 9, 3) := by decide +kernel
theorem dX10_clocks_37 : decode M_X10_clocks.2.1 37 = .ok (.iload_n 3, 1) := by decide +kernel
theorem dX10_clocks_38 : decode M_X10_clocks.2.1 38 = .ok (.ifCond .ne 5, 3) := by decide +kernel
theorem dX10_clocks_41 : decode M_X10_clocks.2.1 41 = .ok (.iconst 0, 1) := by decide +kernel
theorem dX10_clocks_42 : decode M_X10_clocks.2.1 42 = .ok (.ireturn, 1) := by decide +kernel
theorem dX10_clocks_43 : decode M_X10_clocks.2.1 43 = .ok (.iconst 1, 1) := by decide +kernel
theorem dX10_clocks_44 : decode M_X10_clocks.2.1 44 = .ok (.istore 4, 2) := by decide +kernel
theorem dX10_clocks_46 : decode M_X10_clocks.2.1 46 = .ok (.iload 4, 2) := by decide +kernel
theorem dX10_clocks_48 : decode M_X10_clocks.2.1 48 = .ok (.iconst 3, 1) := by decide +kernel
theorem dX10_clocks_49 : decode M_X10_clocks.2.1 49 = .ok (.if_icmp .ge 33, 3) := by decide +kernel
theorem dX10_clocks_52 : decode M_X10_clocks.2.1 52 = .ok (.aload_n 0, 1) := by decide +kernel
theorem dX10_clocks_53 : decode M_X10_clocks.2.1 53 = .ok (.getfield 108, 3) := by decide +kernel
theorem dX10_clocks_56 : decode M_X10_clocks.2.1 56 = .ok (.iload 4, 2) := by decide +kernel
theorem dX10_clocks_58 : decode M_X10_clocks.2.1 58 = .ok (.iload_n 1, 1) := by decide +kernel
theorem dX10_clocks_59 : decode M_X10_clocks.2.1 59 = .ok (.iastore, 1) := by decide +kernel
theorem dX10_clocks_60 : decode M_X10_clocks.2.1 60 = .ok (.aload_n 0, 1) := by decide +kernel
theorem dX10_clocks_61 : decode M_X10_clocks.2.1 61 = .ok (.getfield 111, 3) := by decide +kernel
theorem dX10_clocks_64 : decode M_X10_clocks.2.1 64 = .ok (.iload 4, 2) := by decide +kernel
theorem dX10_clocks_66 : decode M_X10_clocks.2.1 66 = .ok (.iload_n 2, 1) := by decide +kernel
theorem dX10_clocks_67 : decode M_X10_clocks.2.1 67 = .ok (.iastore, 1) := by decide +kernel
theorem dX10_clocks_68 : decode M_X10_clocks.2.1 68 = .ok (.aload_n 0, 1) := by decide +kernel
theorem dX10_clocks_69 : decode M_X10_clocks.2.1 69 = .ok (.getfield 114, 3) := by decide +kernel
theorem dX10_clocks_72 : decode M_X10_clocks.2.1 72 = .ok (.iload 4, 2) := by decide +kernel
theorem dX10_clocks_74 : decode M_X10_clocks.2.1 74 = .ok (.iconst 0, 1) := by decide +kernel
theorem dX10_clocks_75 : decode M_X10_clocks.2.1 75 = .ok (.bastore, 1) := by decide +kernel
theorem dX10_clocks_76 : decode M_X10_clocks.2.1 76 = .ok (.iinc 4 1, 3) := by decide +kernel
theorem dX10_clocks_79 : decode M_X10_clocks.2.1 79 = .ok (.goto (-33), 3) := by decide +kernel
theorem dX10_clocks_82 : decode M_X10_clocks.2.1 82 = .ok (.aload_n 0, 1) := by decide +kernel
theorem dX10_clocks_83 : decode M_X10_clocks.2.1 83 = .ok (.iload_n 3, 1) := by decide +kernel
theorem dX10_clocks_84 : decode M_X10_clocks.2.1 84 = .ok (.putfield 357, 3) := by decide +kernel
theorem dX10_clocks_87 : decode M_X10_clocks.2.1 87 = .ok (.iconst 1, 1) := by decide +kernel
theorem dX10_clocks_88 : decode M_X10_clocks.2.1 88 = .ok (.ireturn, 1) := by decide +kernel
def L_X10_clocks_46 (X : ZX) (d n : Nat) (P : Option Value → ZSto → Prop) (x1 : Int) (x2 : Int) (x3 : Int) (x4 : Int) (σ : ZSto) : Prop := R32 x1 → R32 x2 → R32 x3 → R32 x4 → ZOk n σ → Zn X M_X10_clocks d n P 46 [some (.ref (zB X + 73)), some (iV x1), some (iV x2), some (iV x3), some (iV x4)] [] σ
theorem w_X10_clocks {X : ZX} {d n : Nat} {P : Int → ZSto → Prop} {x1 : Int} {x2 : Int} {x3 : Int} {σ : ZSto} (hn : 104 ≤ n)  (hx1 : R32 x1) (hx2 : R32 x2) (hx3 : R32 x3)
    (h : (x1 < 0 → P 0 σ) ∧ (¬ (x1 < 0) → (100000 < x1 → P 0 σ) ∧ (¬ (100000 < x1) → (x2 < 0 → P 0 σ) ∧ (¬ (x2 < 0) → (100000 < x2 → P 0 σ) ∧ (¬ (100000 < x2) → (x3 < 0 → P 0 σ) ∧ (¬ (x3 < 0) → (100000 < x3 → P 0 σ) ∧ (¬ (100000 < x3) → (x2 ≤ 0 → L_X10_clocks_46 X d n (zpZ P) x1 x2 x3 1 σ) ∧ (¬ (x2 ≤ 0) → (¬ x3 = 0 → L_X10_clocks_46 X d n (zpZ P) x1 x2 x3 1 σ) ∧ (x3 = 0 → P 0 σ))))))))) :
    ZkZ X M_X10_clocks (d + 1) n [.ref (zB X + 73), iV x1, iV x2, iV x3] σ P := by
  refine zk_of (ls := [some (.ref (zB X + 73)), some (iV x1), some (iV x2), some (iV x3), none]) pl_RX10 (Nat.le_of_ble_eq_true rfl) rfl (fun k0 => ?_)
  unfold Zn
  refine r_iload_n dX10_clocks_0 rfl ?_
  refine r_if_lt (t := 41) dX10_clocks_1 rfl hx1  (fun c1 => ?_) (fun c2 => ?_)
  · have h3 := h.1 c1
    refine r_iconst dX10_clocks_41 ?_
    exact r_zreturn dX10_clocks_42 rfl (Or.inl rfl) ⟨k0, _, rfl, (Or.inl rfl), h3⟩
  · have h4 := h.2 c2
    refine r_iload_n dX10_clocks_4 rfl ?_
    refine r_ldcw (x := 100000) dX10_clocks_5 kc_RX10_356 rfl ?_
    refine r_icmp_gt (t := 41) dX10_clocks_8 rfl hx1 (r32c rfl) (fun c5 => ?_) (fun c6 => ?_)
    · have h7 := h4.1 c5
      refine r_iconst dX10_clocks_41 ?_
      exact r_zreturn dX10_clocks_42 rfl (Or.inl rfl) ⟨k0, _, rfl, (Or.inl rfl), h7⟩
    · have h8 := h4.2 c6
      refine r_iload_n dX10_clocks_11 rfl ?_
      refine r_if_lt (t := 41) dX10_clocks_12 rfl hx2  (fun c9 => ?_) (fun c10 => ?_)
      · have h11 := h8.1 c9
        refine r_iconst dX10_clocks_41 ?_
        exact r_zreturn dX10_clocks_42 rfl (Or.inl rfl) ⟨k0, _, rfl, (Or.inl rfl), h11⟩
      · have h12 := h8.2 c10
        refine r_iload_n dX10_clocks_15 rfl ?_
        refine r_ldcw (x := 100000) dX10_clocks_16 kc_RX10_356 rfl ?_
        refine r_icmp_gt (t := 41) dX10_clocks_19 rfl hx2 (r32c rfl) (fun c13 => ?_) (fun c14 => ?_)
        · have h15 := h12.1 c13
          refine r_iconst dX10_clocks_41 ?_
          exact r_zreturn dX10_clocks_42 rfl (Or.inl rfl) ⟨k0, _, rfl, (Or.inl rfl), h15⟩
        · have h16 := h12.2 c14
          refine r_iload_n dX10_clocks_22 rfl ?_
          refine r_if_lt (t := 41) dX10_clocks_23 rfl hx3  (fun c17 => ?_) (fun c18 => ?_)
          · have h19 := h16.1 c17
            refine r_iconst dX10_clocks_41 ?_
            exact r_zreturn dX10_clocks_42 rfl (Or.inl rfl) ⟨k0, _, rfl, (Or.inl rfl), h19⟩
          · have h20 := h16.2 c18
            refine r_iload_n dX10_clocks_26 rfl ?_
            refine r_ldcw (x := 100000) dX10_clocks_27 kc_RX10_356 rfl ?_
            refine r_icmp_gt (t := 41) dX10_clocks_30 rfl hx3 (r32c rfl) (fun c21 => ?_) (fun c22 => ?_)
            · have h23 := h20.1 c21
              refine r_iconst dX10_clocks_41 ?_
              exact r_zreturn dX10_clocks_42 rfl (Or.inl rfl) ⟨k0, _, rfl, (Or.inl rfl), h23⟩
            · have h24 := h20.2 c22
              refine r_iload_n dX10_clocks_33 rfl ?_
              refine r_if_le (t := 43) dX10_clocks_34 rfl hx2  (fun c25 => ?_) (fun c26 => ?_)
              · have h27 := h24.1 c25
                refine r_iconst dX10_clocks_43 ?_
                refine r_istore dX10_clocks_44 rfl rfl ?_
                exact r_mask [true, true, true, true, true] rfl (h27 hx1 hx2 hx3 (r32c rfl) k0)
              · have h28 := h24.2 c26
                refine r_iload_n dX10_clocks_37 rfl ?_
                refine r_if_ne (t := 43) dX10_clocks_38 rfl hx3  (fun c29 => ?_) (fun c30 => ?_)
                · have h31 := h28.1 c29
                  refine r_iconst dX10_clocks_43 ?_
                  refine r_istore dX10_clocks_44 rfl rfl ?_
                  exact r_mask [true, true, true, true, true] rfl (h31 hx1 hx2 hx3 (r32c rfl) k0)
                · have h32 := h28.2 c30
                  refine r_iconst dX10_clocks_41 ?_
                  exact r_zreturn dX10_clocks_42 rfl (Or.inl rfl) ⟨k0, _, rfl, (Or.inl rfl), h32⟩
theorem b_X10_clocks_46 {X : ZX} {d n : Nat} {P : Int → ZSto → Prop} {x1 : Int} {x2 : Int} {x3 : Int} {x4 : Int} {σ : ZSto} (hn : 104 ≤ n) 
    (h : (3 ≤ x4 → P 1 (sI σ 73 51 x3)) ∧ (¬ (3 ≤ x4) → (0 ≤ x4 ∧ x4 < 3) ∧ R32 (x4 + 1) ∧ L_X10_clocks_46 X d n (zpZ P) x1 x2 x3 (x4 + 1) (sI (sI (sI σ 101 x4.toNat x1) 102 x4.toNat x2) 103 x4.toNat 0))) :
    L_X10_clocks_46 X d n (zpZ P) x1 x2 x3 x4 σ := by
  intro hx1 hx2 hx3 hx4 k0
  unfold Zn
  refine r_iload dX10_clocks_46 rfl ?_
  refine r_iconst dX10_clocks_48 ?_
  refine r_icmp_ge (t := 82) dX10_clocks_49 rfl hx4 (r32c rfl) (fun c1 => ?_) (fun c2 => ?_)
  · have h3 := h.1 c1
    refine r_aload_n dX10_clocks_82 rfl ?_
    refine r_iload_n dX10_clocks_83 rfl ?_
    refine r_putI dX10_clocks_84 kf_RX10_357 (zlt hn rfl) sh_73 rfl (Or.inl rfl) ?_
    have k4 := zok_o (i := 51) (x := x3) k0 sh_73 hx3
    refine r_iconst dX10_clocks_87 ?_
    exact r_zreturn dX10_clocks_88 rfl (Or.inr rfl) ⟨k4, _, rfl, (Or.inr rfl), h3⟩
  · have h5 := h.2 c2
    refine r_aload_n dX10_clocks_52 rfl ?_
    refine r_getP (a := 101) dX10_clocks_53 kf_RX10_108 (zlt hn rfl) sh_73 rfl (k0.1 _ _ _ (zlt hn rfl) p_73_48) ?_
    refine r_iload dX10_clocks_56 rfl ?_
    refine r_iload_n dX10_clocks_58 rfl ?_
    obtain ⟨h6, h7⟩ := h5
    refine r_iastore dX10_clocks_59 (zlt hn rfl) sh_101 h6.1 h6.2 ?_
    have k8 := zok_i (i := x4.toNat) (x := x1) k0 sh_101 hx1
    refine r_aload_n dX10_clocks_60 rfl ?_
    refine r_getP (a := 102) dX10_clocks_61 kf_RX10_111 (zlt hn rfl) sh_73 rfl (k8.1 _ _ _ (zlt hn rfl) p_73_49) ?_
    refine r_iload dX10_clocks_64 rfl ?_
    refine r_iload_n dX10_clocks_66 rfl ?_
    refine r_iastore dX10_clocks_67 (zlt hn rfl) sh_102 h6.1 h6.2 ?_
    have k9 := zok_i (i := x4.toNat) (x := x2) k8 sh_102 hx2
    refine r_aload_n dX10_clocks_68 rfl ?_
    refine r_getP (a := 103) dX10_clocks_69 kf_RX10_114 (zlt hn rfl) sh_73 rfl (k9.1 _ _ _ (zlt hn rfl) p_73_50) ?_
    refine r_iload dX10_clocks_72 rfl ?_
    refine r_iconst dX10_clocks_74 ?_
    refine r_zastore dX10_clocks_75 (zlt hn rfl) sh_103 h6.1 h6.2 (Or.inl rfl) ?_
    have k10 := zok_z (i := x4.toNat) (x := 0) k9 sh_103 (Or.inl rfl)
    refine r_iinc dX10_clocks_76 rfl rfl rfl ?_
    refine r_goto (t := 46) dX10_clocks_79 rfl ?_
    obtain ⟨h11, h12⟩ := h7
    exact r_mask [true, true, true, true, true] rfl (h12 hx1 hx2 hx3 h11 k10)
/-! StoneRoomModel.clock -/
theorem dX10_clock_0 : decode M_X10_clock.2.1 0 = .ok (.iload_n 1, 1) := by decide +kernel
theorem dX10_clock_1 : decode M_X10_clock.2.1 1 = .ok (.iconst 1, 1) := by decide +kernel
theorem dX10_clock_2 : decode M_X10_clock.2.1 2 = .ok (.if_icmp .lt 37, 3) := by decide +kernel
theorem dX10_clock_5 : decode M_X10_clock.2.1 5 = .ok (.iload_n 1, 1) := by decide +kernel
theorem dX10_clock_6 : decode M_X10_clock.2.1 6 = .ok (.iconst 2, 1) := by decide +kernel
theorem dX10_clock_7 : decode M_X10_clock.2.1 7 = .ok (.if_icmp .gt 32, 3) := by decide +kernel
theorem dX10_clock_10 : decode M_X10_clock.2.1 10 = .ok (.iload_n 2, 1) := by decide +kernel
theorem dX10_clock_11 : decode M_X10_clock.2.1 11 = .ok (.ifCond .lt 28, 3) := by decide +kernel
theorem dX10_clock_14 : decode M_X10_clock.2.1 14 = .ok (.iload_n 2, 1) := by decide +kernel
theorem dX10_clock_15 : decode M_X10_clock.2.1 15 = .ok (.ldc_w 356, 3) := by decide +kernel
theorem dX10_clock_18 : decode M_X10_clock.2.1 18 = .ok (.if_icmp .gt 21, 3) := by decide +kernel
theorem dX10_clock_21 : decode M_X10_clock.2.1 21 = .ok (.aload_n 0, 1) := by decide +kernel
theorem dX10_clock_22 : decode M_X10_clock.2.1 22 = .ok (.getfield 114, 3) := by decide +kernel
theorem dX10_clock_25 : decode M_X10_clock.2.1 25 = .ok (.iconst 1, 1) := by decide +kernel
theorem dX10_clock_26 : decode M_X10_clock.2.1 26 = .ok (.baload, 1) := by decide +kernel
theorem dX10_clock_27 : decode M_X10_clock.2.1 27 = .ok (.ifCond .ne 12, 3) := by decide +kernel
theorem dX10_clock_30 : decode M_X10_clock.2.1 30 = .ok (.aload_n 0, 1) := by decide +kernel
theorem dX10_clock_31 : decode M_X10_clock.2.1 31 = .ok (.getfield 114, 3) := by decide +kernel
theorem dX10_clock_34 : decode M_X10_clock.2.1 34 = .ok (.iconst 2, 1) := by decide +kernel
theorem dX10_clock_35 : decode M_X10_clock.2.1 35 = .ok (.baload, 1) := by decide +kernel
theorem dX10_clock_36 : decode M_X10_clock.2.1 36 = .ok (.ifCond .eq 5, 3) := by decide +kernel
theorem dX10_clock_39 : decode M_X10_clock.2.1 39 = .ok (.iconst (-1), 1) := by decide +kernel
theorem dX10_clock_40 : decode M_X10_clock.2.1 40 = .ok (.ireturn, 1) := by decide +kernel
theorem dX10_clock_41 : decode M_X10_clock.2.1 41 = .ok (.iload_n 2, 1) := by decide +kernel
theorem dX10_clock_42 : decode M_X10_clock.2.1 42 = .ok (.aload_n 0, 1) := by decide +kernel
theorem dX10_clock_43 : decode M_X10_clock.2.1 43 = .ok (.getfield 108, 3) := by decide +kernel
theorem dX10_clock_46 : decode M_X10_clock.2.1 46 = .ok (.iload_n 1, 1) := by decide +kernel
theorem dX10_clock_47 : decode M_X10_clock.2.1 47 = .ok (.iaload, 1) := by decide +kernel
theorem dX10_clock_48 : decode M_X10_clock.2.1 48 = .ok (.if_icmp .le 14, 3) := by decide +kernel
theorem dX10_clock_51 : decode M_X10_clock.2.1 51 = .ok (.iload_n 2, 1) := by decide +kernel
theorem dX10_clock_52 : decode M_X10_clock.2.1 52 = .ok (.aload_n 0, 1) := by decide +kernel
theorem dX10_clock_53 : decode M_X10_clock.2.1 53 = .ok (.getfield 108, 3) := by decide +kernel
theorem dX10_clock_56 : decode M_X10_clock.2.1 56 = .ok (.iload_n 1, 1) := by decide +kernel
theorem dX10_clock_57 : decode M_X10_clock.2.1 57 = .ok (.iaload, 1) := by decide +kernel
theorem dX10_clock_58 : decode M_X10_clock.2.1 58 = .ok (.isub, 1) := by decide +kernel
theorem dX10_clock_59 : decode M_X10_clock.2.1 59 = .ok (.goto 4, 3) := by decide +kernel
theorem dX10_clock_62 : decode M_X10_clock.2.1 62 = .ok (.iconst 0, 1) := by decide +kernel
theorem dX10_clock_63 : decode M_X10_clock.2.1 63 = .ok (.istore_n 3, 1) := by decide +kernel
theorem dX10_clock_64 : decode M_X10_clock.2.1 64 = .ok (.aload_n 0, 1) := by decide +kernel
theorem dX10_clock_65 : decode M_X10_clock.2.1 65 = .ok (.getfield 108, 3) := by decide +kernel
theorem dX10_clock_68 : decode M_X10_clock.2.1 68 = .ok (.iload_n 1, 1) := by decide +kernel
theorem dX10_clock_69 : decode M_X10_clock.2.1 69 = .ok (.dup2, 1) := by decide +kernel
theorem dX10_clock_70 : decode M_X10_clock.2.1 70 = .ok (.iaload, 1) := by decide +kernel
theorem dX10_clock_71 : decode M_X10_clock.2.1 71 = .ok (.iload_n 2, 1) := by decide +kernel
theorem dX10_clock_72 : decode M_X10_clock.2.1 72 = .ok (.iload_n 3, 1) := by decide +kernel
theorem dX10_clock_73 : decode M_X10_clock.2.1 73 = .ok (.isub, 1) := by decide +kernel
theorem dX10_clock_74 : decode M_X10_clock.2.1 74 = .ok (.isub, 1) := by decide +kernel
theorem dX10_clock_75 : decode M_X10_clock.2.1 75 = .ok (.iastore, 1) := by decide +kernel
theorem dX10_clock_76 : decode M_X10_clock.2.1 76 = .ok (.iload_n 3, 1) := by decide +kernel
theorem dX10_clock_77 : decode M_X10_clock.2.1 77 = .ok (.ifCond .ne 5, 3) := by decide +kernel
theorem dX10_clock_80 : decode M_X10_clock.2.1 80 = .ok (.iconst 0, 1) := by decide +kernel
theorem dX10_clock_81 : decode M_X10_clock.2.1 81 = .ok (.ireturn, 1) := by decide +kernel
theorem dX10_clock_82 : decode M_X10_clock.2.1 82 = .ok (.aload_n 0, 1) := by decide +kernel
theorem dX10_clock_83 : decode M_X10_clock.2.1 83 = .ok (.getfield 111, 3) := by decide +kernel
theorem dX10_clock_86 : decode M_X10_clock.2.1 86 = .ok (.iload_n 1, 1) := by decide +kernel
theorem dX10_clock_87 : decode M_X10_clock.2.1 87 = .ok (.iaload, 1) := by decide +kernel
theorem dX10_clock_88 : decode M_X10_clock.2.1 88 = .ok (.ifCond .ne 7, 3) := by decide +kernel
theorem dX10_clock_91 : decode M_X10_clock.2.1 91 = .ok (.iconst 0, 1) := by decide +kernel
theorem dX10_clock_92 : decode M_X10_clock.2.1 92 = .ok (.goto 9, 3) := by decide +kernel
theorem dX10_clock_95 : decode M_X10_clock.2.1 95 = .ok (.iload_n 3, 1) := by decide +kernel
theorem dX10_clock_96 : decode M_X10_clock.2.1 96 = .ok (.aload_n 0, 1) := by decide +kernel
theorem dX10_clock_97 : decode M_X10_clock.2.1 97 = .ok (.getfield 357, 3) := by decide +kernel
theorem dX10_clock_100 : decode M_X10_clock.2.1 100 = .ok (.idiv, 1) := by decide +kernel
theorem dX10_clock_101 : decode M_X10_clock.2.1 101 = .ok (.istore 4, 2) := by decide +kernel
theorem dX10_clock_103 : decode M_X10_clock.2.1 103 = .ok (.aload_n 0, 1) := by decide +kernel
theorem dX10_clock_104 : decode M_X10_clock.2.1 104 = .ok (.getfield 111, 3) := by decide +kernel
theorem dX10_clock_107 : decode M_X10_clock.2.1 107 = .ok (.iload_n 1, 1) := by decide +kernel
theorem dX10_clock_108 : decode M_X10_clock.2.1 108 = .ok (.iload 4, 2) := by decide +kernel
theorem dX10_clock_110 : decode M_X10_clock.2.1 110 = .ok (.aload_n 0, 1) := by decide +kernel
theorem dX10_clock_111 : decode M_X10_clock.2.1 111 = .ok (.getfield 111, 3) := by decide +kernel
theorem dX10_clock_114 : decode M_X10_clock.2.1 114 = .ok (.iload_n 1, 1) := by decide +kernel
theorem dX10_clock_115 : decode M_X10_clock.2.1 115 = .ok (.iaload, 1) := by decide +kernel
theorem dX10_clock_116 : decode M_X10_clock.2.1 116 = .ok (.if_icmp .ge 15, 3) := by decide +kernel
theorem dX10_clock_119 : decode M_X10_clock.2.1 119 = .ok (.aload_n 0, 1) := by decide +kernel
theorem dX10_clock_120 : decode M_X10_clock.2.1 120 = .ok (.getfield 111, 3) := by decide +kernel
theorem dX10_clock_123 : decode M_X10_clock.2.1 123 = .ok (.iload_n 1, 1) := by decide +kernel
theorem dX10_clock_124 : decode M_X10_clock.2.1 124 = .ok (.iaload, 1) := by decide +kernel
theorem dX10_clock_125 : decode M_X10_clock.2.1 125 = .ok (.iload 4, 2) := by decide +kernel
theorem dX10_clock_127 : decode M_X10_clock.2.1 127 = .ok (.isub, 1) := by decide +kernel
theorem dX10_clock_128 : decode M_X10_clock.2.1 128 = .ok (.goto 4, 3) := by decide +kernel
theorem dX10_clock_131 : decode M_X10_clock.2.1 131 = .ok (.iconst 0, 1) := by decide +kernel
theorem dX10_clock_132 : decode M_X10_clock.2.1 132 = .ok (.iastore, 1) := by decide +kernel
theorem dX10_clock_133 : decode M_X10_clock.2.1 133 = .ok (.aload_n 0, 1) := by decide +kernel
theorem dX10_clock_134 : decode M_X10_clock.2.1 134 = .ok (.getfield 114, 3) := by decide +kernel
theorem dX10_clock_137 : decode M_X10_clock.2.1 137 = .ok (.iload_n 1, 1) := by decide +kernel
theorem dX10_clock_138 : decode M_X10_clock.2.1 138 = .ok (.aload_n 0, 1) := by decide +kernel
theorem dX10_clock_139 : decode M_X10_clock.2.1 139 = .ok (.getfield 111, 3) := by decide +kernel
theorem dX10_clock_142 : decode M_X10_clock.2.1 142 = .ok (.iload_n 1, 1) := by decide +kernel
theorem dX10_clock_143 : decode M_X10_clock.2.1 143 = .ok (.iaload, 1) := by decide +kernel
theorem dX10_clock_144 : decode M_X10_clock.2.1 144 = .ok (.ifCond .ne 7, 3) := by decide +kernel
theorem dX10_clock_147 : decode M_X10_clock.2.1 147 = .ok (.iconst 1, 1) := by decide +kernel
theorem dX10_clock_148 : decode M_X10_clock.2.1 148 = .ok (.goto 4, 3) := by decide +kernel
theorem dX10_clock_151 : decode M_X10_clock.2.1 151 = .ok (.iconst 0, 1) := by decide +kernel
theorem dX10_clock_152 : decode M_X10_clock.2.1 152 = .ok (.bastore, 1) := by decide +kernel
theorem dX10_clock_153 : decode M_X10_clock.2.1 153 = .ok (.aload_n 0, 1) := by decide +kernel
theorem dX10_clock_154 : decode M_X10_clock.2.1 154 = .ok (.getfield 114, 3) := by decide +kernel
theorem dX10_clock_157 : decode M_X10_clock.2.1 157 = .ok (.iload_n 1, 1) := by decide +kernel
theorem dX10_clock_158 : decode M_X10_clock.2.1 158 = .ok (.baload, 1) := by decide +kernel
theorem dX10_clock_159 : decode M_X10_clock.2.1 159 = .ok (.ifCond .eq 7, 3) := by decide +kernel
theorem dX10_clock_162 : decode M_X10_clock.2.1 162 = .ok (.iconst 1, 1) := by decide +kernel
theorem dX10_clock_163 : decode M_X10_clock.2.1 163 = .ok (.goto 4, 3) := by decide +kernel
theorem dX10_clock_166 : decode M_X10_clock.2.1 166 = .ok (.iconst 0, 1) := by decide +kernel
theorem dX10_clock_167 : decode M_X10_clock.2.1 167 = .ok (.ireturn, 1) := by decide +kernel
def L_X10_clock_63 (X : ZX) (d n : Nat) (P : Option Value → ZSto → Prop) (x1 : Int) (x2 : Int) (x20 : Int) (σ : ZSto) : Prop := R32 x1 → R32 x2 → R32 x20 → ZOk n σ → Zn X M_X10_clock d n P 63 [some (.ref (zB X + 73)), some (iV x1), some (iV x2), none, none] [iV x20] σ
def L_X10_clock_101 (X : ZX) (d n : Nat) (P : Option Value → ZSto → Prop) (x1 : Int) (x20 : Int) (σ : ZSto) : Prop := R32 x1 → R32 x20 → ZOk n σ → Zn X M_X10_clock d n P 101 [some (.ref (zB X + 73)), some (iV x1), none, none, none] [iV x20] σ
theorem w_X10_clock {X : ZX} {d n : Nat} {P : Int → ZSto → Prop} {x1 : Int} {x2 : Int} {σ : ZSto} (hn : 104 ≤ n)  (hx1 : R32 x1) (hx2 : R32 x2)
    (h : (x1 < 1 → P ((-1)) σ) ∧ (¬ (x1 < 1) → (2 < x1 → P ((-1)) σ) ∧ (¬ (2 < x1) → (x2 < 0 → P ((-1)) σ) ∧ (¬ (x2 < 0) → (100000 < x2 → P ((-1)) σ) ∧ (¬ (100000 < x2) → (¬ gI σ 103 1 = 0 → P ((-1)) σ) ∧ (gI σ 103 1 = 0 → (gI σ 103 2 = 0 → (0 ≤ x1 ∧ x1 < 3) ∧ (x2 ≤ gI σ 101 x1.toNat → R32 ((gI σ 101 x1.toNat) - (x2 - 0)) ∧ P 0 (sI σ 101 x1.toNat ((gI σ 101 x1.toNat) - (x2 - 0)))) ∧ (¬ (x2 ≤ gI σ 101 x1.toNat) → R32 (x2 - (gI σ 101 x1.toNat)) ∧ L_X10_clock_63 X d n (zpI P) x1 x2 (x2 - (gI σ 101 x1.toNat)) σ)) ∧ (¬ (gI σ 103 2 = 0) → P ((-1)) σ))))))) :
    ZkI X M_X10_clock (d + 1) n [.ref (zB X + 73), iV x1, iV x2] σ P := by
  refine zk_of (ls := [some (.ref (zB X + 73)), some (iV x1), some (iV x2), none, none]) pl_RX10 (Nat.le_of_ble_eq_true rfl) rfl (fun k0 => ?_)
  unfold Zn
  refine r_iload_n dX10_clock_0 rfl ?_
  refine r_iconst dX10_clock_1 ?_
  refine r_icmp_lt (t := 39) dX10_clock_2 rfl hx1 (r32c rfl) (fun c1 => ?_) (fun c2 => ?_)
  · have h3 := h.1 c1
    refine r_iconst dX10_clock_39 ?_
    exact r_ireturn dX10_clock_40 rfl ⟨k0, _, rfl, (r32c rfl), h3⟩
  · have h4 := h.2 c2
    refine r_iload_n dX10_clock_5 rfl ?_
    refine r_iconst dX10_clock_6 ?_
    refine r_icmp_gt (t := 39) dX10_clock_7 rfl hx1 (r32c rfl) (fun c5 => ?_) (fun c6 => ?_)
    · have h7 := h4.1 c5
      refine r_iconst dX10_clock_39 ?_
      exact r_ireturn dX10_clock_40 rfl ⟨k0, _, rfl, (r32c rfl), h7⟩
    · have h8 := h4.2 c6
      refine r_iload_n dX10_clock_10 rfl ?_
      refine r_if_lt (t := 39) dX10_clock_11 rfl hx2  (fun c9 => ?_) (fun c10 => ?_)
      · have h11 := h8.1 c9
        refine r_iconst dX10_clock_39 ?_
        exact r_ireturn dX10_clock_40 rfl ⟨k0, _, rfl, (r32c rfl), h11⟩
      · have h12 := h8.2 c10
        refine r_iload_n dX10_clock_14 rfl ?_
        refine r_ldcw (x := 100000) dX10_clock_15 kc_RX10_356 rfl ?_
        refine r_icmp_gt (t := 39) dX10_clock_18 rfl hx2 (r32c rfl) (fun c13 => ?_) (fun c14 => ?_)
        · have h15 := h12.1 c13
          refine r_iconst dX10_clock_39 ?_
          exact r_ireturn dX10_clock_40 rfl ⟨k0, _, rfl, (r32c rfl), h15⟩
        · have h16 := h12.2 c14
          refine r_aload_n dX10_clock_21 rfl ?_
          refine r_getP (a := 103) dX10_clock_22 kf_RX10_114 (zlt hn rfl) sh_73 rfl (k0.1 _ _ _ (zlt hn rfl) p_73_50) ?_
          refine r_iconst dX10_clock_25 ?_
          refine r_zaloadE dX10_clock_26 (zlt hn rfl) sh_103 (by decide) (by decide) rfl ?_
          refine r_if_ne (t := 39) dX10_clock_27 rfl (k0.2.1 _ _)  (fun c17 => ?_) (fun c18 => ?_)
          · have h19 := h16.1 c17
            refine r_iconst dX10_clock_39 ?_
            exact r_ireturn dX10_clock_40 rfl ⟨k0, _, rfl, (r32c rfl), h19⟩
          · have h20 := h16.2 c18
            refine r_aload_n dX10_clock_30 rfl ?_
            refine r_getP (a := 103) dX10_clock_31 kf_RX10_114 (zlt hn rfl) sh_73 rfl (k0.1 _ _ _ (zlt hn rfl) p_73_50) ?_
            refine r_iconst dX10_clock_34 ?_
            refine r_zaloadE dX10_clock_35 (zlt hn rfl) sh_103 (by decide) (by decide) rfl ?_
            refine r_if_eq (t := 41) dX10_clock_36 rfl (k0.2.1 _ _)  (fun c21 => ?_) (fun c22 => ?_)
            · have h23 := h20.1 c21
              refine r_iload_n dX10_clock_41 rfl ?_
              refine r_aload_n dX10_clock_42 rfl ?_
              refine r_getP (a := 101) dX10_clock_43 kf_RX10_108 (zlt hn rfl) sh_73 rfl (k0.1 _ _ _ (zlt hn rfl) p_73_48) ?_
              refine r_iload_n dX10_clock_46 rfl ?_
              obtain ⟨h24, h25⟩ := h23
              refine r_ialoadE dX10_clock_47 (zlt hn rfl) sh_101 h24.1 h24.2 rfl ?_
              refine r_icmp_le (t := 62) dX10_clock_48 rfl hx2 (k0.2.1 _ _) (fun c26 => ?_) (fun c27 => ?_)
              · have h28 := h25.1 c26
                refine r_iconst dX10_clock_62 ?_
                refine r_istore_n dX10_clock_63 rfl rfl ?_
                refine r_aload_n dX10_clock_64 rfl ?_
                refine r_getP (a := 101) dX10_clock_65 kf_RX10_108 (zlt hn rfl) sh_73 rfl (k0.1 _ _ _ (zlt hn rfl) p_73_48) ?_
                refine r_iload_n dX10_clock_68 rfl ?_
                refine r_dup2 dX10_clock_69 rfl rfl ?_
                refine r_ialoadE dX10_clock_70 (zlt hn rfl) sh_101 h24.1 h24.2 rfl ?_
                refine r_iload_n dX10_clock_71 rfl ?_
                refine r_iload_n dX10_clock_72 rfl ?_
                refine r_isub dX10_clock_73 ?_
                refine r_isub dX10_clock_74 ?_
                obtain ⟨h30, h31⟩ := h28
                refine r_iastore dX10_clock_75 (zlt hn rfl) sh_101 h24.1 h24.2 ?_
                have k29 := zok_i (i := x1.toNat) (x := (gI σ 101 x1.toNat) - (x2 - 0)) k0 sh_101 h30
                refine r_iload_n dX10_clock_76 rfl ?_
                refine r_if_ne (t := 82) dX10_clock_77 rfl (r32c rfl)  (fun c32 => absurd c32 (by decide)) (fun _ => ?_)
                refine r_iconst dX10_clock_80 ?_
                exact r_ireturn dX10_clock_81 rfl ⟨k29, _, rfl, (r32c rfl), h31⟩
              · have h33 := h25.2 c27
                refine r_iload_n dX10_clock_51 rfl ?_
                refine r_aload_n dX10_clock_52 rfl ?_
                refine r_getP (a := 101) dX10_clock_53 kf_RX10_108 (zlt hn rfl) sh_73 rfl (k0.1 _ _ _ (zlt hn rfl) p_73_48) ?_
                refine r_iload_n dX10_clock_56 rfl ?_
                refine r_ialoadE dX10_clock_57 (zlt hn rfl) sh_101 h24.1 h24.2 rfl ?_
                refine r_isub dX10_clock_58 ?_
                refine r_goto (t := 63) dX10_clock_59 rfl ?_
                obtain ⟨h34, h35⟩ := h33
                exact r_mask [true, true, true, false, false] rfl (h35 hx1 hx2 h34 k0)
            · have h36 := h20.2 c22
              refine r_iconst dX10_clock_39 ?_
              exact r_ireturn dX10_clock_40 rfl ⟨k0, _, rfl, (r32c rfl), h36⟩
theorem b_X10_clock_63 {X : ZX} {d n : Nat} {P : Int → ZSto → Prop} {x1 : Int} {x2 : Int} {x20 : Int} {σ : ZSto} (hn : 104 ≤ n) 
    (h : (0 ≤ x1 ∧ x1 < 3) ∧ R32 ((gI σ 101 x1.toNat) - (x2 - x20)) ∧ (¬ x20 = 0 → (¬ gI σ 102 x1.toNat = 0 → (0 < gI σ 73 51 ∧ gI σ 73 51 < 2147483648) ∧ (0 ≤ x20 ∧ x20 < 2147483648) ∧ R32 (x20 / (gI σ 73 51)) ∧ L_X10_clock_101 X d n (zpI P) x1 (x20 / (gI σ 73 51)) (sI σ 101 x1.toNat ((gI σ 101 x1.toNat) - (x2 - x20)))) ∧ (gI σ 102 x1.toNat = 0 → L_X10_clock_101 X d n (zpI P) x1 0 (sI σ 101 x1.toNat ((gI σ 101 x1.toNat) - (x2 - x20))))) ∧ (x20 = 0 → P 0 (sI σ 101 x1.toNat ((gI σ 101 x1.toNat) - (x2 - x20))))) :
    L_X10_clock_63 X d n (zpI P) x1 x2 x20 σ := by
  intro hx1 hx2 hx20 k0
  unfold Zn
  refine r_istore_n dX10_clock_63 rfl rfl ?_
  refine r_aload_n dX10_clock_64 rfl ?_
  refine r_getP (a := 101) dX10_clock_65 kf_RX10_108 (zlt hn rfl) sh_73 rfl (k0.1 _ _ _ (zlt hn rfl) p_73_48) ?_
  refine r_iload_n dX10_clock_68 rfl ?_
  refine r_dup2 dX10_clock_69 rfl rfl ?_
  obtain ⟨h1, h2⟩ := h
  refine r_ialoadE dX10_clock_70 (zlt hn rfl) sh_101 h1.1 h1.2 rfl ?_
  refine r_iload_n dX10_clock_71 rfl ?_
  refine r_iload_n dX10_clock_72 rfl ?_
  refine r_isub dX10_clock_73 ?_
  refine r_isub dX10_clock_74 ?_
  obtain ⟨h4, h5⟩ := h2
  refine r_iastore dX10_clock_75 (zlt hn rfl) sh_101 h1.1 h1.2 ?_
  have k3 := zok_i (i := x1.toNat) (x := (gI σ 101 x1.toNat) - (x2 - x20)) k0 sh_101 h4
  refine r_iload_n dX10_clock_76 rfl ?_
  refine r_if_ne (t := 82) dX10_clock_77 rfl hx20  (fun c6 => ?_) (fun c7 => ?_)
  · have h8 := h5.1 c6
    refine r_aload_n dX10_clock_82 rfl ?_
    refine r_getP (a := 102) dX10_clock_83 kf_RX10_111 (zlt hn rfl) sh_73 rfl (k3.1 _ _ _ (zlt hn rfl) p_73_49) ?_
    refine r_iload_n dX10_clock_86 rfl ?_
    refine r_ialoadE dX10_clock_87 (zlt hn rfl) sh_102 h1.1 h1.2 (gI_c (by decide)) ?_
    refine r_if_ne (t := 95) dX10_clock_88 rfl (k0.2.1 _ _)  (fun c9 => ?_) (fun c10 => ?_)
    · have h11 := h8.1 c9
      refine r_iload_n dX10_clock_95 rfl ?_
      refine r_aload_n dX10_clock_96 rfl ?_
      refine r_getI dX10_clock_97 kf_RX10_357 (zlt hn rfl) sh_73 (Or.inl rfl) (gI_c (by decide)) ?_
      obtain ⟨h12, h13⟩ := h11
      obtain ⟨h14, h15⟩ := h13
      refine r_idiv dX10_clock_100 h14.1 h14.2 h12.1 h12.2 ?_
      obtain ⟨h16, h17⟩ := h15
      exact r_mask [true, true, false, false, false] rfl (h17 hx1 h16 k3)
    · have h18 := h8.2 c10
      refine r_iconst dX10_clock_91 ?_
      refine r_goto (t := 101) dX10_clock_92 rfl ?_
      exact r_mask [true, true, false, false, false] rfl (h18 hx1 (r32c rfl) k3)
  · have h19 := h5.2 c7
    refine r_iconst dX10_clock_80 ?_
    exact r_ireturn dX10_clock_81 rfl ⟨k3, _, rfl, (r32c rfl), h19⟩
theorem b_X10_clock_101 {X : ZX} {d n : Nat} {P : Int → ZSto → Prop} {x1 : Int} {x20 : Int} {σ : ZSto} (hn : 104 ≤ n) 
    (h : (0 ≤ x1 ∧ x1 < 3) ∧ (gI σ 102 x1.toNat ≤ x20 → P 1 (sI (sI σ 102 x1.toNat 0) 103 x1.toNat 1)) ∧ (¬ (gI σ 102 x1.toNat ≤ x20) → R32 ((gI σ 102 x1.toNat) - x20) ∧ (¬ (gI σ 102 x1.toNat) - x20 = 0 → P 0 (sI (sI σ 102 x1.toNat ((gI σ 102 x1.toNat) - x20)) 103 x1.toNat 0)) ∧ ((gI σ 102 x1.toNat) - x20 = 0 → P 1 (sI (sI σ 102 x1.toNat ((gI σ 102 x1.toNat) - x20)) 103 x1.toNat 1)))) :
    L_X10_clock_101 X d n (zpI P) x1 x20 σ := by
  intro hx1 hx20 k0
  unfold Zn
  refine r_istore dX10_clock_101 rfl rfl ?_
  refine r_aload_n dX10_clock_103 rfl ?_
  refine r_getP (a := 102) dX10_clock_104 kf_RX10_111 (zlt hn rfl) sh_73 rfl (k0.1 _ _ _ (zlt hn rfl) p_73_49) ?_
  refine r_iload_n dX10_clock_107 rfl ?_
  refine r_iload dX10_clock_108 rfl ?_
  refine r_aload_n dX10_clock_110 rfl ?_
  refine r_getP (a := 102) dX10_clock_111 kf_RX10_111 (zlt hn rfl) sh_73 rfl (k0.1 _ _ _ (zlt hn rfl) p_73_49) ?_
  refine r_iload_n dX10_clock_114 rfl ?_
  obtain ⟨h1, h2⟩ := h
  refine r_ialoadE dX10_clock_115 (zlt hn rfl) sh_102 h1.1 h1.2 rfl ?_
  refine r_icmp_ge (t := 131) dX10_clock_116 rfl hx20 (k0.2.1 _ _) (fun c3 => ?_) (fun c4 => ?_)
  · have h5 := h2.1 c3
    refine r_iconst dX10_clock_131 ?_
    refine r_iastore dX10_clock_132 (zlt hn rfl) sh_102 h1.1 h1.2 ?_
    have k6 := zok_i (i := x1.toNat) (x := 0) k0 sh_102 (r32c rfl)
    refine r_aload_n dX10_clock_133 rfl ?_
    refine r_getP (a := 103) dX10_clock_134 kf_RX10_114 (zlt hn rfl) sh_73 rfl (k6.1 _ _ _ (zlt hn rfl) p_73_50) ?_
    refine r_iload_n dX10_clock_137 rfl ?_
    refine r_aload_n dX10_clock_138 rfl ?_
    refine r_getP (a := 102) dX10_clock_139 kf_RX10_111 (zlt hn rfl) sh_73 rfl (k6.1 _ _ _ (zlt hn rfl) p_73_49) ?_
    refine r_iload_n dX10_clock_142 rfl ?_
    refine r_ialoadE dX10_clock_143 (zlt hn rfl) sh_102 h1.1 h1.2 (gI_same _ _ _ _) ?_
    refine r_if_ne (t := 151) dX10_clock_144 rfl (r32c rfl)  (fun c7 => absurd c7 (by decide)) (fun _ => ?_)
    refine r_iconst dX10_clock_147 ?_
    refine r_goto (t := 152) dX10_clock_148 rfl ?_
    refine r_zastore dX10_clock_152 (zlt hn rfl) sh_103 h1.1 h1.2 (Or.inr rfl) ?_
    have k8 := zok_z (i := x1.toNat) (x := 1) k6 sh_103 (Or.inr rfl)
    refine r_aload_n dX10_clock_153 rfl ?_
    refine r_getP (a := 103) dX10_clock_154 kf_RX10_114 (zlt hn rfl) sh_73 rfl (k8.1 _ _ _ (zlt hn rfl) p_73_50) ?_
    refine r_iload_n dX10_clock_157 rfl ?_
    refine r_zaloadE dX10_clock_158 (zlt hn rfl) sh_103 h1.1 h1.2 (gI_same _ _ _ _) ?_
    refine r_if_eq (t := 166) dX10_clock_159 rfl (r32c rfl)  (fun c9 => absurd c9 (by decide)) (fun _ => ?_)
    refine r_iconst dX10_clock_162 ?_
    refine r_goto (t := 167) dX10_clock_163 rfl ?_
    exact r_ireturn dX10_clock_167 rfl ⟨k8, _, rfl, (r32c rfl), h5⟩
  · have h10 := h2.2 c4
    refine r_aload_n dX10_clock_119 rfl ?_
    refine r_getP (a := 102) dX10_clock_120 kf_RX10_111 (zlt hn rfl) sh_73 rfl (k0.1 _ _ _ (zlt hn rfl) p_73_49) ?_
    refine r_iload_n dX10_clock_123 rfl ?_
    refine r_ialoadE dX10_clock_124 (zlt hn rfl) sh_102 h1.1 h1.2 rfl ?_
    refine r_iload dX10_clock_125 rfl ?_
    refine r_isub dX10_clock_127 ?_
    refine r_goto (t := 132) dX10_clock_128 rfl ?_
    obtain ⟨h12, h13⟩ := h10
    refine r_iastore dX10_clock_132 (zlt hn rfl) sh_102 h1.1 h1.2 ?_
    have k11 := zok_i (i := x1.toNat) (x := (gI σ 102 x1.toNat) - x20) k0 sh_102 h12
    refine r_aload_n dX10_clock_133 rfl ?_
    refine r_getP (a := 103) dX10_clock_134 kf_RX10_114 (zlt hn rfl) sh_73 rfl (k11.1 _ _ _ (zlt hn rfl) p_73_50) ?_
    refine r_iload_n dX10_clock_137 rfl ?_
    refine r_aload_n dX10_clock_138 rfl ?_
    refine r_getP (a := 102) dX10_clock_139 kf_RX10_111 (zlt hn rfl) sh_73 rfl (k11.1 _ _ _ (zlt hn rfl) p_73_49) ?_
    refine r_iload_n dX10_clock_142 rfl ?_
    refine r_ialoadE dX10_clock_143 (zlt hn rfl) sh_102 h1.1 h1.2 (gI_same _ _ _ _) ?_
    refine r_if_ne (t := 151) dX10_clock_144 rfl h12  (fun c14 => ?_) (fun c15 => ?_)
    · have h16 := h13.1 c14
      refine r_iconst dX10_clock_151 ?_
      refine r_zastore dX10_clock_152 (zlt hn rfl) sh_103 h1.1 h1.2 (Or.inl rfl) ?_
      have k17 := zok_z (i := x1.toNat) (x := 0) k11 sh_103 (Or.inl rfl)
      refine r_aload_n dX10_clock_153 rfl ?_
      refine r_getP (a := 103) dX10_clock_154 kf_RX10_114 (zlt hn rfl) sh_73 rfl (k17.1 _ _ _ (zlt hn rfl) p_73_50) ?_
      refine r_iload_n dX10_clock_157 rfl ?_
      refine r_zaloadE dX10_clock_158 (zlt hn rfl) sh_103 h1.1 h1.2 (gI_same _ _ _ _) ?_
      refine r_if_eq (t := 166) dX10_clock_159 rfl (r32c rfl)  (fun _ => ?_) (fun c18 => absurd c18 (by decide))
      refine r_iconst dX10_clock_166 ?_
      exact r_ireturn dX10_clock_167 rfl ⟨k17, _, rfl, (r32c rfl), h16⟩
    · have h19 := h13.2 c15
      refine r_iconst dX10_clock_147 ?_
      refine r_goto (t := 152) dX10_clock_148 rfl ?_
      refine r_zastore dX10_clock_152 (zlt hn rfl) sh_103 h1.1 h1.2 (Or.inr rfl) ?_
      have k20 := zok_z (i := x1.toNat) (x := 1) k11 sh_103 (Or.inr rfl)
      refine r_aload_n dX10_clock_153 rfl ?_
      refine r_getP (a := 103) dX10_clock_154 kf_RX10_114 (zlt hn rfl) sh_73 rfl (k20.1 _ _ _ (zlt hn rfl) p_73_50) ?_
      refine r_iload_n dX10_clock_157 rfl ?_
      refine r_zaloadE dX10_clock_158 (zlt hn rfl) sh_103 h1.1 h1.2 (gI_same _ _ _ _) ?_
      refine r_if_eq (t := 166) dX10_clock_159 rfl (r32c rfl)  (fun c21 => absurd c21 (by decide)) (fun _ => ?_)
      refine r_iconst dX10_clock_162 ?_
      refine r_goto (t := 167) dX10_clock_163 rfl ?_
      exact r_ireturn dX10_clock_167 rfl ⟨k20, _, rfl, (r32c rfl), h19⟩
/-! StoneRoomModel.time -/
theorem dX10_time_0 : decode M_X10_time.2.1 0 = .ok (.iload_n 1, 1) := by decide +kernel
theorem dX10_time_1 : decode M_X10_time.2.1 1 = .ok (.iconst 1, 1) := by decide +kernel
theorem dX10_time_2 : decode M_X10_time.2.1 2 = .ok (.if_icmp .lt 8, 3) := by decide +kernel
theorem dX10_time_5 : decode M_X10_time.2.1 5 = .ok (.iload_n 1, 1) := by decide +kernel
theorem dX10_time_6 : decode M_X10_time.2.1 6 = .ok (.iconst 2, 1) := by decide +kernel
theorem dX10_time_7 : decode M_X10_time.2.1 7 = .ok (.if_icmp .le 5, 3) := by decide +kernel
theorem dX10_time_10 : decode M_X10_time.2.1 10 = .ok (.iconst (-1), 1) := by decide +kernel
theorem dX10_time_11 : decode M_X10_time.2.1 11 = .ok (.ireturn, 1) := by decide +kernel
theorem dX10_time_12 : decode M_X10_time.2.1 12 = .ok (.iload_n 2, 1) := by decide +kernel
theorem dX10_time_13 : decode M_X10_time.2.1 13 = .ok (.ifCond .ne 12, 3) := by decide +kernel
theorem dX10_time_16 : decode M_X10_time.2.1 16 = .ok (.aload_n 0, 1) := by decide +kernel
theorem dX10_time_17 : decode M_X10_time.2.1 17 = .ok (.getfield 108, 3) := by decide +kernel
theorem dX10_time_20 : decode M_X10_time.2.1 20 = .ok (.iload_n 1, 1) := by decide +kernel
theorem dX10_time_21 : decode M_X10_time.2.1 21 = .ok (.iaload, 1) := by decide +kernel
theorem dX10_time_22 : decode M_X10_time.2.1 22 = .ok (.goto 40, 3) := by decide +kernel
theorem dX10_time_25 : decode M_X10_time.2.1 25 = .ok (.iload_n 2, 1) := by decide +kernel
theorem dX10_time_26 : decode M_X10_time.2.1 26 = .ok (.iconst 1, 1) := by decide +kernel
theorem dX10_time_27 : decode M_X10_time.2.1 27 = .ok (.if_icmp .ne 12, 3) := by decide +kernel
theorem dX10_time_30 : decode M_X10_time.2.1 30 = .ok (.aload_n 0, 1) := by decide +kernel
theorem dX10_time_31 : decode M_X10_time.2.1 31 = .ok (.getfield 111, 3) := by decide +kernel
theorem dX10_time_34 : decode M_X10_time.2.1 34 = .ok (.iload_n 1, 1) := by decide +kernel
theorem dX10_time_35 : decode M_X10_time.2.1 35 = .ok (.iaload, 1) := by decide +kernel
theorem dX10_time_36 : decode M_X10_time.2.1 36 = .ok (.goto 26, 3) := by decide +kernel
theorem dX10_time_39 : decode M_X10_time.2.1 39 = .ok (.iload_n 2, 1) := by decide +kernel
theorem dX10_time_40 : decode M_X10_time.2.1 40 = .ok (.iconst 2, 1) := by decide +kernel
theorem dX10_time_41 : decode M_X10_time.2.1 41 = .ok (.if_icmp .ne 20, 3) := by decide +kernel
theorem dX10_time_44 : decode M_X10_time.2.1 44 = .ok (.aload_n 0, 1) := by decide +kernel
theorem dX10_time_45 : decode M_X10_time.2.1 45 = .ok (.getfield 114, 3) := by decide +kernel
theorem dX10_time_48 : decode M_X10_time.2.1 48 = .ok (.iload_n 1, 1) := by decide +kernel
theorem dX10_time_49 : decode M_X10_time.2.1 49 = .ok (.baload, 1) := by decide +kernel
theorem dX10_time_50 : decode M_X10_time.2.1 50 = .ok (.ifCond .eq 7, 3) := by decide +kernel
theorem dX10_time_53 : decode M_X10_time.2.1 53 = .ok (.iconst 1, 1) := by decide +kernel
theorem dX10_time_54 : decode M_X10_time.2.1 54 = .ok (.goto 8, 3) := by decide +kernel
theorem dX10_time_57 : decode M_X10_time.2.1 57 = .ok (.iconst 0, 1) := by decide +kernel
theorem dX10_time_58 : decode M_X10_time.2.1 58 = .ok (.goto 4, 3) := by decide +kernel
theorem dX10_time_61 : decode M_X10_time.2.1 61 = .ok (.iconst (-1), 1) := by decide +kernel
theorem dX10_time_62 : decode M_X10_time.2.1 62 = .ok (.ireturn, 1) := by decide +kernel
theorem w_X10_time {X : ZX} {d n : Nat} {P : Int → ZSto → Prop} {x1 : Int} {x2 : Int} {σ : ZSto} (hn : 104 ≤ n)  (hx1 : R32 x1) (hx2 : R32 x2)
    (h : (x1 < 1 → P ((-1)) σ) ∧ (¬ (x1 < 1) → (x1 ≤ 2 → (¬ x2 = 0 → (¬ x2 = 1 → (¬ x2 = 2 → P ((-1)) σ) ∧ (x2 = 2 → (0 ≤ x1 ∧ x1 < 3) ∧ (gI σ 103 x1.toNat = 0 → P 0 σ) ∧ (¬ (gI σ 103 x1.toNat = 0) → P 1 σ))) ∧ (x2 = 1 → (0 ≤ x1 ∧ x1 < 3) ∧ P (gI σ 102 x1.toNat) σ)) ∧ (x2 = 0 → (0 ≤ x1 ∧ x1 < 3) ∧ P (gI σ 101 x1.toNat) σ)) ∧ (¬ (x1 ≤ 2) → P ((-1)) σ))) :
    ZkI X M_X10_time (d + 1) n [.ref (zB X + 73), iV x1, iV x2] σ P := by
  refine zk_of (ls := [some (.ref (zB X + 73)), some (iV x1), some (iV x2)]) pl_RX10 (Nat.le_of_ble_eq_true rfl) rfl (fun k0 => ?_)
  unfold Zn
  refine r_iload_n dX10_time_0 rfl ?_
  refine r_iconst dX10_time_1 ?_
  refine r_icmp_lt (t := 10) dX10_time_2 rfl hx1 (r32c rfl) (fun c1 => ?_) (fun c2 => ?_)
  · have h3 := h.1 c1
    refine r_iconst dX10_time_10 ?_
    exact r_ireturn dX10_time_11 rfl ⟨k0, _, rfl, (r32c rfl), h3⟩
  · have h4 := h.2 c2
    refine r_iload_n dX10_time_5 rfl ?_
    refine r_iconst dX10_time_6 ?_
    refine r_icmp_le (t := 12) dX10_time_7 rfl hx1 (r32c rfl) (fun c5 => ?_) (fun c6 => ?_)
    · have h7 := h4.1 c5
      refine r_iload_n dX10_time_12 rfl ?_
      refine r_if_ne (t := 25) dX10_time_13 rfl hx2  (fun c8 => ?_) (fun c9 => ?_)
      · have h10 := h7.1 c8
        refine r_iload_n dX10_time_25 rfl ?_
        refine r_iconst dX10_time_26 ?_
        refine r_icmp_ne (t := 39) dX10_time_27 rfl hx2 (r32c rfl) (fun c11 => ?_) (fun c12 => ?_)
        · have h13 := h10.1 c11
          refine r_iload_n dX10_time_39 rfl ?_
          refine r_iconst dX10_time_40 ?_
          refine r_icmp_ne (t := 61) dX10_time_41 rfl hx2 (r32c rfl) (fun c14 => ?_) (fun c15 => ?_)
          · have h16 := h13.1 c14
            refine r_iconst dX10_time_61 ?_
            exact r_ireturn dX10_time_62 rfl ⟨k0, _, rfl, (r32c rfl), h16⟩
          · have h17 := h13.2 c15
            refine r_aload_n dX10_time_44 rfl ?_
            refine r_getP (a := 103) dX10_time_45 kf_RX10_114 (zlt hn rfl) sh_73 rfl (k0.1 _ _ _ (zlt hn rfl) p_73_50) ?_
            refine r_iload_n dX10_time_48 rfl ?_
            obtain ⟨h18, h19⟩ := h17
            refine r_zaloadE dX10_time_49 (zlt hn rfl) sh_103 h18.1 h18.2 rfl ?_
            refine r_if_eq (t := 57) dX10_time_50 rfl (k0.2.1 _ _)  (fun c20 => ?_) (fun c21 => ?_)
            · have h22 := h19.1 c20
              refine r_iconst dX10_time_57 ?_
              refine r_goto (t := 62) dX10_time_58 rfl ?_
              exact r_ireturn dX10_time_62 rfl ⟨k0, _, rfl, (r32c rfl), h22⟩
            · have h23 := h19.2 c21
              refine r_iconst dX10_time_53 ?_
              refine r_goto (t := 62) dX10_time_54 rfl ?_
              exact r_ireturn dX10_time_62 rfl ⟨k0, _, rfl, (r32c rfl), h23⟩
        · have h24 := h10.2 c12
          refine r_aload_n dX10_time_30 rfl ?_
          refine r_getP (a := 102) dX10_time_31 kf_RX10_111 (zlt hn rfl) sh_73 rfl (k0.1 _ _ _ (zlt hn rfl) p_73_49) ?_
          refine r_iload_n dX10_time_34 rfl ?_
          obtain ⟨h25, h26⟩ := h24
          refine r_ialoadE dX10_time_35 (zlt hn rfl) sh_102 h25.1 h25.2 rfl ?_
          refine r_goto (t := 62) dX10_time_36 rfl ?_
          exact r_ireturn dX10_time_62 rfl ⟨k0, _, rfl, (k0.2.1 _ _), h26⟩
      · have h27 := h7.2 c9
        refine r_aload_n dX10_time_16 rfl ?_
        refine r_getP (a := 101) dX10_time_17 kf_RX10_108 (zlt hn rfl) sh_73 rfl (k0.1 _ _ _ (zlt hn rfl) p_73_48) ?_
        refine r_iload_n dX10_time_20 rfl ?_
        obtain ⟨h28, h29⟩ := h27
        refine r_ialoadE dX10_time_21 (zlt hn rfl) sh_101 h28.1 h28.2 rfl ?_
        refine r_goto (t := 62) dX10_time_22 rfl ?_
        exact r_ireturn dX10_time_62 rfl ⟨k0, _, rfl, (k0.2.1 _ _), h29⟩
    · have h30 := h4.2 c6
      refine r_iconst dX10_time_10 ?_
      exact r_ireturn dX10_time_11 rfl ⟨k0, _, rfl, (r32c rfl), h30⟩
/-! StoneRoomModel.count -/
theorem dX10_count_0 : decode M_X10_count.2.1 0 = .ok (.aload_n 0, 1) := by decide +kernel
theorem dX10_count_1 : decode M_X10_count.2.1 1 = .ok (.invokevirtual 275, 3) := by decide +kernel
theorem dX10_count_4 : decode M_X10_count.2.1 4 = .ok (.istore_n 2, 1) := by decide +kernel
theorem dX10_count_5 : decode M_X10_count.2.1 5 = .ok (.iconst 0, 1) := by decide +kernel
theorem dX10_count_6 : decode M_X10_count.2.1 6 = .ok (.istore_n 3, 1) := by decide +kernel
theorem dX10_count_7 : decode M_X10_count.2.1 7 = .ok (.iload_n 1, 1) := by decide +kernel
theorem dX10_count_8 : decode M_X10_count.2.1 8 = .ok (.tableswitch 237 0 9 #[56, 66, 80, 85, 95, 104, 121, 184, 227, 232], 56) := by decide +kernel
theorem dX10_count_64 : decode M_X10_count.2.1 64 = .ok (.aload_n 0, 1) := by decide +kernel
theorem dX10_count_65 : decode M_X10_count.2.1 65 = .ok (.getfield 33, 3) := by decide +kernel
theorem dX10_count_68 : decode M_X10_count.2.1 68 = .ok (.aload_n 0, 1) := by decide +kernel
theorem dX10_count_69 : decode M_X10_count.2.1 69 = .ok (.getfield 170, 3) := by decide +kernel
theorem dX10_count_72 : decode M_X10_count.2.1 72 = .ok (.iaload, 1) := by decide +kernel
theorem dX10_count_73 : decode M_X10_count.2.1 73 = .ok (.ireturn, 1) := by decide +kernel
theorem dX10_count_74 : decode M_X10_count.2.1 74 = .ok (.aload_n 0, 1) := by decide +kernel
theorem dX10_count_75 : decode M_X10_count.2.1 75 = .ok (.getfield 173, 3) := by decide +kernel
theorem dX10_count_78 : decode M_X10_count.2.1 78 = .ok (.sipush 250, 3) := by decide +kernel
theorem dX10_count_81 : decode M_X10_count.2.1 81 = .ok (.aload_n 0, 1) := by decide +kernel
theorem dX10_count_82 : decode M_X10_count.2.1 82 = .ok (.getfield 170, 3) := by decide +kernel
theorem dX10_count_85 : decode M_X10_count.2.1 85 = .ok (.imul, 1) := by decide +kernel
theorem dX10_count_86 : decode M_X10_count.2.1 86 = .ok (.isub, 1) := by decide +kernel
theorem dX10_count_87 : decode M_X10_count.2.1 87 = .ok (.ireturn, 1) := by decide +kernel
theorem dX10_count_88 : decode M_X10_count.2.1 88 = .ok (.aload_n 0, 1) := by decide +kernel
theorem dX10_count_89 : decode M_X10_count.2.1 89 = .ok (.getfield 139, 3) := by decide +kernel
theorem dX10_count_92 : decode M_X10_count.2.1 92 = .ok (.ireturn, 1) := by decide +kernel
theorem dX10_count_93 : decode M_X10_count.2.1 93 = .ok (.aload_n 0, 1) := by decide +kernel
theorem dX10_count_94 : decode M_X10_count.2.1 94 = .ok (.getfield 39, 3) := by decide +kernel
theorem dX10_count_97 : decode M_X10_count.2.1 97 = .ok (.aload_n 0, 1) := by decide +kernel
theorem dX10_count_98 : decode M_X10_count.2.1 98 = .ok (.getfield 170, 3) := by decide +kernel
theorem dX10_count_101 : decode M_X10_count.2.1 101 = .ok (.iaload, 1) := by decide +kernel
theorem dX10_count_102 : decode M_X10_count.2.1 102 = .ok (.ireturn, 1) := by decide +kernel
theorem dX10_count_103 : decode M_X10_count.2.1 103 = .ok (.aload_n 0, 1) := by decide +kernel
theorem dX10_count_104 : decode M_X10_count.2.1 104 = .ok (.aload_n 0, 1) := by decide +kernel
theorem dX10_count_105 : decode M_X10_count.2.1 105 = .ok (.getfield 173, 3) := by decide +kernel
theorem dX10_count_108 : decode M_X10_count.2.1 108 = .ok (.invokevirtual 160, 3) := by decide +kernel
theorem dX10_count_111 : decode M_X10_count.2.1 111 = .ok (.ireturn, 1) := by decide +kernel
theorem dX10_count_112 : decode M_X10_count.2.1 112 = .ok (.aload_n 0, 1) := by decide +kernel
theorem dX10_count_113 : decode M_X10_count.2.1 113 = .ok (.aload_n 0, 1) := by decide +kernel
theorem dX10_count_114 : decode M_X10_count.2.1 114 = .ok (.getfield 173, 3) := by decide +kernel
theorem dX10_count_117 : decode M_X10_count.2.1 117 = .ok (.invokevirtual 180, 3) := by decide +kernel
theorem dX10_count_120 : decode M_X10_count.2.1 120 = .ok (.ifCond .eq 7, 3) := by decide +kernel
theorem dX10_count_123 : decode M_X10_count.2.1 123 = .ok (.iconst 1, 1) := by decide +kernel
theorem dX10_count_124 : decode M_X10_count.2.1 124 = .ok (.goto 4, 3) := by decide +kernel
theorem dX10_count_127 : decode M_X10_count.2.1 127 = .ok (.iconst 0, 1) := by decide +kernel
theorem dX10_count_128 : decode M_X10_count.2.1 128 = .ok (.ireturn, 1) := by decide +kernel
theorem dX10_count_129 : decode M_X10_count.2.1 129 = .ok (.iconst 0, 1) := by decide +kernel
theorem dX10_count_130 : decode M_X10_count.2.1 130 = .ok (.istore 4, 2) := by decide +kernel
theorem dX10_count_132 : decode M_X10_count.2.1 132 = .ok (.iload 4, 2) := by decide +kernel
theorem dX10_count_134 : decode M_X10_count.2.1 134 = .ok (.aload_n 0, 1) := by decide +kernel
theorem dX10_count_135 : decode M_X10_count.2.1 135 = .ok (.getfield 139, 3) := by decide +kernel
theorem dX10_count_138 : decode M_X10_count.2.1 138 = .ok (.aload_n 0, 1) := by decide +kernel
theorem dX10_count_139 : decode M_X10_count.2.1 139 = .ok (.getfield 139, 3) := by decide +kernel
theorem dX10_count_142 : decode M_X10_count.2.1 142 = .ok (.imul, 1) := by decide +kernel
theorem dX10_count_143 : decode M_X10_count.2.1 143 = .ok (.if_icmp .ge 47, 3) := by decide +kernel
theorem dX10_count_146 : decode M_X10_count.2.1 146 = .ok (.aload_n 0, 1) := by decide +kernel
theorem dX10_count_147 : decode M_X10_count.2.1 147 = .ok (.getfield 46, 3) := by decide +kernel
theorem dX10_count_150 : decode M_X10_count.2.1 150 = .ok (.iload 4, 2) := by decide +kernel
theorem dX10_count_152 : decode M_X10_count.2.1 152 = .ok (.baload, 1) := by decide +kernel
theorem dX10_count_153 : decode M_X10_count.2.1 153 = .ok (.ifCond .ne 6, 3) := by decide +kernel
theorem dX10_count_156 : decode M_X10_count.2.1 156 = .ok (.goto 28, 3) := by decide +kernel
theorem dX10_count_159 : decode M_X10_count.2.1 159 = .ok (.aload_n 0, 1) := by decide +kernel
theorem dX10_count_160 : decode M_X10_count.2.1 160 = .ok (.iload 4, 2) := by decide +kernel
theorem dX10_count_162 : decode M_X10_count.2.1 162 = .ok (.invokevirtual 148, 3) := by decide +kernel
theorem dX10_count_165 : decode M_X10_count.2.1 165 = .ok (.istore 5, 2) := by decide +kernel
theorem dX10_count_167 : decode M_X10_count.2.1 167 = .ok (.iload_n 3, 1) := by decide +kernel
theorem dX10_count_168 : decode M_X10_count.2.1 168 = .ok (.aload_n 0, 1) := by decide +kernel
theorem dX10_count_169 : decode M_X10_count.2.1 169 = .ok (.invokevirtual 284, 3) := by decide +kernel
theorem dX10_count_172 : decode M_X10_count.2.1 172 = .ok (.iload 4, 2) := by decide +kernel
theorem dX10_count_174 : decode M_X10_count.2.1 174 = .ok (.if_icmp .ne 7, 3) := by decide +kernel
theorem dX10_count_177 : decode M_X10_count.2.1 177 = .ok (.iconst 1, 1) := by decide +kernel
theorem dX10_count_178 : decode M_X10_count.2.1 178 = .ok (.goto 4, 3) := by decide +kernel
theorem dX10_count_181 : decode M_X10_count.2.1 181 = .ok (.iconst 0, 1) := by decide +kernel
theorem dX10_count_182 : decode M_X10_count.2.1 182 = .ok (.iadd, 1) := by decide +kernel
theorem dX10_count_183 : decode M_X10_count.2.1 183 = .ok (.istore_n 3, 1) := by decide +kernel
theorem dX10_count_184 : decode M_X10_count.2.1 184 = .ok (.iinc 4 1, 3) := by decide +kernel
theorem dX10_count_187 : decode M_X10_count.2.1 187 = .ok (.goto (-55), 3) := by decide +kernel
theorem dX10_count_190 : decode M_X10_count.2.1 190 = .ok (.iload_n 3, 1) := by decide +kernel
theorem dX10_count_191 : decode M_X10_count.2.1 191 = .ok (.ireturn, 1) := by decide +kernel
theorem dX10_count_192 : decode M_X10_count.2.1 192 = .ok (.iconst 0, 1) := by decide +kernel
theorem dX10_count_193 : decode M_X10_count.2.1 193 = .ok (.istore 4, 2) := by decide +kernel
theorem dX10_count_195 : decode M_X10_count.2.1 195 = .ok (.iload 4, 2) := by decide +kernel
theorem dX10_count_197 : decode M_X10_count.2.1 197 = .ok (.aload_n 0, 1) := by decide +kernel
theorem dX10_count_198 : decode M_X10_count.2.1 198 = .ok (.getfield 139, 3) := by decide +kernel
theorem dX10_count_201 : decode M_X10_count.2.1 201 = .ok (.aload_n 0, 1) := by decide +kernel
theorem dX10_count_202 : decode M_X10_count.2.1 202 = .ok (.getfield 139, 3) := by decide +kernel
theorem dX10_count_205 : decode M_X10_count.2.1 205 = .ok (.imul, 1) := by decide +kernel
theorem dX10_count_206 : decode M_X10_count.2.1 206 = .ok (.if_icmp .ge 27, 3) := by decide +kernel
theorem dX10_count_209 : decode M_X10_count.2.1 209 = .ok (.iload_n 3, 1) := by decide +kernel
theorem dX10_count_210 : decode M_X10_count.2.1 210 = .ok (.aload_n 0, 1) := by decide +kernel
theorem dX10_count_211 : decode M_X10_count.2.1 211 = .ok (.getfield 46, 3) := by decide +kernel
theorem dX10_count_214 : decode M_X10_count.2.1 214 = .ok (.iload 4, 2) := by decide +kernel
theorem dX10_count_216 : decode M_X10_count.2.1 216 = .ok (.baload, 1) := by decide +kernel
theorem dX10_count_217 : decode M_X10_count.2.1 217 = .ok (.ifCond .eq 7, 3) := by decide +kernel
theorem dX10_count_220 : decode M_X10_count.2.1 220 = .ok (.iconst 1, 1) := by decide +kernel
theorem dX10_count_221 : decode M_X10_count.2.1 221 = .ok (.goto 4, 3) := by decide +kernel
theorem dX10_count_224 : decode M_X10_count.2.1 224 = .ok (.iconst 0, 1) := by decide +kernel
theorem dX10_count_225 : decode M_X10_count.2.1 225 = .ok (.iadd, 1) := by decide +kernel
theorem dX10_count_226 : decode M_X10_count.2.1 226 = .ok (.istore_n 3, 1) := by decide +kernel
theorem dX10_count_227 : decode M_X10_count.2.1 227 = .ok (.iinc 4 1, 3) := by decide +kernel
theorem dX10_count_230 : decode M_X10_count.2.1 230 = .ok (.goto (-35), 3) := by decide +kernel
theorem dX10_count_233 : decode M_X10_count.2.1 233 = .ok (.iload_n 3, 1) := by decide +kernel
theorem dX10_count_234 : decode M_X10_count.2.1 234 = .ok (.ireturn, 1) := by decide +kernel
theorem dX10_count_235 : decode M_X10_count.2.1 235 = .ok (.aload_n 0, 1) := by decide +kernel
theorem dX10_count_236 : decode M_X10_count.2.1 236 = .ok (.getfield 195, 3) := by decide +kernel
theorem dX10_count_239 : decode M_X10_count.2.1 239 = .ok (.ireturn, 1) := by decide +kernel
theorem dX10_count_240 : decode M_X10_count.2.1 240 = .ok (.aload_n 0, 1) := by decide +kernel
theorem dX10_count_241 : decode M_X10_count.2.1 241 = .ok (.getfield 42, 3) := by decide +kernel
theorem dX10_count_244 : decode M_X10_count.2.1 244 = .ok (.ireturn, 1) := by decide +kernel
theorem dX10_count_245 : decode M_X10_count.2.1 245 = .ok (.iconst (-1), 1) := by decide +kernel
theorem dX10_count_246 : decode M_X10_count.2.1 246 = .ok (.ireturn, 1) := by decide +kernel
def L_X10_count_132 (X : ZX) (d n : Nat) (P : Option Value → ZSto → Prop) (x3 : Int) (x4 : Int) (σ : ZSto) : Prop := R32 x3 → R32 x4 → ZOk n σ → Zn X M_X10_count d n P 132 [some (.ref (zB X + 73)), none, none, some (iV x3), some (iV x4), none] [] σ
def L_X10_count_195 (X : ZX) (d n : Nat) (P : Option Value → ZSto → Prop) (x3 : Int) (x4 : Int) (σ : ZSto) : Prop := R32 x3 → R32 x4 → ZOk n σ → Zn X M_X10_count d n P 195 [some (.ref (zB X + 73)), none, none, some (iV x3), some (iV x4), none] [] σ
theorem w_X10_count {X : ZX} {d n : Nat} {P : Int → ZSto → Prop} {x1 : Int} {σ : ZSto} (hn : 104 ≤ n)  (hx1 : R32 x1)
    (h : ZkZ X M_X10_shows d n [.ref (zB X + 73)] σ (fun v1 σ2 => (x1 = 0 → (0 ≤ gI σ2 73 10 ∧ gI σ2 73 10 < 2) ∧ P (gI σ2 81 ((gI σ2 73 10).toNat)) σ2) ∧ (x1 = 1 → R32 ((gI σ2 73 11) - (250 * (gI σ2 73 10))) ∧ P ((gI σ2 73 11) - (250 * (gI σ2 73 10))) σ2) ∧ (x1 = 2 → P (gI σ2 73 13) σ2) ∧ (x1 = 3 → (0 ≤ gI σ2 73 10 ∧ gI σ2 73 10 < 2) ∧ P (gI σ2 83 ((gI σ2 73 10).toNat)) σ2) ∧ (x1 = 4 → ZkI X M_X10_turn d n [.ref (zB X + 73), iV (gI σ2 73 11)] σ2 (fun v22 σ23 => P v22 σ23)) ∧ (x1 = 5 → ZkZ X M_X10_isOver d n [.ref (zB X + 73), iV (gI σ2 73 11)] σ2 (fun v29 σ30 => (v29 = 0 → P 0 σ30) ∧ (¬ (v29 = 0) → P 1 σ30))) ∧ (x1 = 6 → L_X10_count_132 X d n (zpI P) 0 0 σ2) ∧ (x1 = 7 → L_X10_count_195 X d n (zpI P) 0 0 σ2) ∧ (x1 = 8 → P (gI σ2 73 20) σ2) ∧ (x1 = 9 → P (gI σ2 73 12) σ2) ∧ ((x1 < 0 ∨ 9 < x1) → P ((-1)) σ2))) :
    ZkI X M_X10_count (d + 1) n [.ref (zB X + 73), iV x1] σ P := by
  refine zk_of (ls := [some (.ref (zB X + 73)), some (iV x1), none, none, none, none]) pl_RX10 (Nat.le_of_ble_eq_true rfl) rfl (fun k0 => ?_)
  unfold Zn
  refine r_aload_n dX10_count_0 rfl ?_
  refine n_callV (N := M_X10_shows) (As := []) (st := []) dX10_count_1 mk_X10_shows km_RX10_275 kd_X10_shows rfl (zlt hn rfl) sh_73 (q := (RX10, TX10, 52)) rfl rfl (zFits_rm d n n n (Nat.le_refl n)) (Nat.le_of_ble_eq_true rfl) rfl k0 h ?_
  rintro _ σ2 k3 ⟨v1, rfl, h4, h5⟩
  change Zm _ _ _ _ _ _ 4 _ [iV v1] _
  refine r_istore_n dX10_count_4 rfl rfl ?_
  refine r_iconst dX10_count_5 ?_
  refine r_istore_n dX10_count_6 rfl rfl ?_
  refine r_iload_n dX10_count_7 rfl ?_
  by_cases c6 : x1 = 0
  · have h7 := h5.1 c6
    refine r_tabIn (t := 64) dX10_count_8 hx1 (by rw [c6]; decide) (by rw [c6]; decide) (by rw [c6]; rfl) rfl ?_
    refine r_aload_n dX10_count_64 rfl ?_
    refine r_getP (a := 81) dX10_count_65 kf_RX10_33 (zlt hn rfl) sh_73 rfl (k3.1 _ _ _ (zlt hn rfl) p_73_7) ?_
    refine r_aload_n dX10_count_68 rfl ?_
    refine r_getI dX10_count_69 kf_RX10_170 (zlt hn rfl) sh_73 (Or.inl rfl) rfl ?_
    obtain ⟨h8, h9⟩ := h7
    refine r_ialoadE dX10_count_72 (zlt hn rfl) sh_81 h8.1 h8.2 rfl ?_
    exact r_ireturn dX10_count_73 rfl ⟨k3, _, rfl, (k3.2.1 _ _), h9⟩
  by_cases c10 : x1 = 1
  · have h11 := h5.2.1 c10
    refine r_tabIn (t := 74) dX10_count_8 hx1 (by rw [c10]; decide) (by rw [c10]; decide) (by rw [c10]; rfl) rfl ?_
    refine r_aload_n dX10_count_74 rfl ?_
    refine r_getI dX10_count_75 kf_RX10_173 (zlt hn rfl) sh_73 (Or.inl rfl) rfl ?_
    refine r_sipush dX10_count_78 rfl ?_
    refine r_aload_n dX10_count_81 rfl ?_
    refine r_getI dX10_count_82 kf_RX10_170 (zlt hn rfl) sh_73 (Or.inl rfl) rfl ?_
    refine r_imul dX10_count_85 ?_
    refine r_isub dX10_count_86 ?_
    obtain ⟨h12, h13⟩ := h11
    exact r_ireturn dX10_count_87 rfl ⟨k3, _, rfl, h12, h13⟩
  by_cases c14 : x1 = 2
  · have h15 := h5.2.2.1 c14
    refine r_tabIn (t := 88) dX10_count_8 hx1 (by rw [c14]; decide) (by rw [c14]; decide) (by rw [c14]; rfl) rfl ?_
    refine r_aload_n dX10_count_88 rfl ?_
    refine r_getI dX10_count_89 kf_RX10_139 (zlt hn rfl) sh_73 (Or.inl rfl) rfl ?_
    exact r_ireturn dX10_count_92 rfl ⟨k3, _, rfl, (k3.2.1 _ _), h15⟩
  by_cases c16 : x1 = 3
  · have h17 := h5.2.2.2.1 c16
    refine r_tabIn (t := 93) dX10_count_8 hx1 (by rw [c16]; decide) (by rw [c16]; decide) (by rw [c16]; rfl) rfl ?_
    refine r_aload_n dX10_count_93 rfl ?_
    refine r_getP (a := 83) dX10_count_94 kf_RX10_39 (zlt hn rfl) sh_73 rfl (k3.1 _ _ _ (zlt hn rfl) p_73_9) ?_
    refine r_aload_n dX10_count_97 rfl ?_
    refine r_getI dX10_count_98 kf_RX10_170 (zlt hn rfl) sh_73 (Or.inl rfl) rfl ?_
    obtain ⟨h18, h19⟩ := h17
    refine r_ialoadE dX10_count_101 (zlt hn rfl) sh_83 h18.1 h18.2 rfl ?_
    exact r_ireturn dX10_count_102 rfl ⟨k3, _, rfl, (k3.2.1 _ _), h19⟩
  by_cases c20 : x1 = 4
  · have h21 := h5.2.2.2.2.1 c20
    refine r_tabIn (t := 103) dX10_count_8 hx1 (by rw [c20]; decide) (by rw [c20]; decide) (by rw [c20]; rfl) rfl ?_
    refine r_aload_n dX10_count_103 rfl ?_
    refine r_aload_n dX10_count_104 rfl ?_
    refine r_getI dX10_count_105 kf_RX10_173 (zlt hn rfl) sh_73 (Or.inl rfl) rfl ?_
    refine n_callV (N := M_X10_turn) (As := [iV (gI σ2 73 11)]) (st := []) dX10_count_108 mk_X10_turn km_RX10_160 kd_X10_turn rfl (zlt hn rfl) sh_73 (q := (RX10, TX10, 52)) rfl rfl (zFits_rm d n n n (Nat.le_refl n)) (Nat.le_of_ble_eq_true rfl) rfl k3 h21 ?_
    rintro _ σ23 k24 ⟨v22, rfl, h25, h26⟩
    change Zm _ _ _ _ _ _ 111 _ [iV v22] _
    exact r_ireturn dX10_count_111 rfl ⟨k24, _, rfl, h25, h26⟩
  by_cases c27 : x1 = 5
  · have h28 := h5.2.2.2.2.2.1 c27
    refine r_tabIn (t := 112) dX10_count_8 hx1 (by rw [c27]; decide) (by rw [c27]; decide) (by rw [c27]; rfl) rfl ?_
    refine r_aload_n dX10_count_112 rfl ?_
    refine r_aload_n dX10_count_113 rfl ?_
    refine r_getI dX10_count_114 kf_RX10_173 (zlt hn rfl) sh_73 (Or.inl rfl) rfl ?_
    refine n_callV (N := M_X10_isOver) (As := [iV (gI σ2 73 11)]) (st := []) dX10_count_117 mk_X10_isOver km_RX10_180 kd_X10_isOver rfl (zlt hn rfl) sh_73 (q := (RX10, TX10, 52)) rfl rfl (zFits_rm d n n n (Nat.le_refl n)) (Nat.le_of_ble_eq_true rfl) rfl k3 h28 ?_
    rintro _ σ30 k31 ⟨v29, rfl, h32, h33⟩
    change Zm _ _ _ _ _ _ 120 _ [iV v29] _
    refine r_if_eq (t := 127) dX10_count_120 rfl (r32_z h32)  (fun c34 => ?_) (fun c35 => ?_)
    · have h36 := h33.1 c34
      refine r_iconst dX10_count_127 ?_
      exact r_ireturn dX10_count_128 rfl ⟨k31, _, rfl, (r32c rfl), h36⟩
    · have h37 := h33.2 c35
      refine r_iconst dX10_count_123 ?_
      refine r_goto (t := 128) dX10_count_124 rfl ?_
      exact r_ireturn dX10_count_128 rfl ⟨k31, _, rfl, (r32c rfl), h37⟩
  by_cases c38 : x1 = 6
  · have h39 := h5.2.2.2.2.2.2.1 c38
    refine r_tabIn (t := 129) dX10_count_8 hx1 (by rw [c38]; decide) (by rw [c38]; decide) (by rw [c38]; rfl) rfl ?_
    refine r_iconst dX10_count_129 ?_
    refine r_istore dX10_count_130 rfl rfl ?_
    exact r_mask [true, false, false, true, true, false] rfl (h39 (r32c rfl) (r32c rfl) k3)
  by_cases c40 : x1 = 7
  · have h41 := h5.2.2.2.2.2.2.2.1 c40
    refine r_tabIn (t := 192) dX10_count_8 hx1 (by rw [c40]; decide) (by rw [c40]; decide) (by rw [c40]; rfl) rfl ?_
    refine r_iconst dX10_count_192 ?_
    refine r_istore dX10_count_193 rfl rfl ?_
    exact r_mask [true, false, false, true, true, false] rfl (h41 (r32c rfl) (r32c rfl) k3)
  by_cases c42 : x1 = 8
  · have h43 := h5.2.2.2.2.2.2.2.2.1 c42
    refine r_tabIn (t := 235) dX10_count_8 hx1 (by rw [c42]; decide) (by rw [c42]; decide) (by rw [c42]; rfl) rfl ?_
    refine r_aload_n dX10_count_235 rfl ?_
    refine r_getI dX10_count_236 kf_RX10_195 (zlt hn rfl) sh_73 (Or.inl rfl) rfl ?_
    exact r_ireturn dX10_count_239 rfl ⟨k3, _, rfl, (k3.2.1 _ _), h43⟩
  by_cases c44 : x1 = 9
  · have h45 := h5.2.2.2.2.2.2.2.2.2.1 c44
    refine r_tabIn (t := 240) dX10_count_8 hx1 (by rw [c44]; decide) (by rw [c44]; decide) (by rw [c44]; rfl) rfl ?_
    refine r_aload_n dX10_count_240 rfl ?_
    refine r_getI dX10_count_241 kf_RX10_42 (zlt hn rfl) sh_73 (Or.inl rfl) rfl ?_
    exact r_ireturn dX10_count_244 rfl ⟨k3, _, rfl, (k3.2.1 _ _), h45⟩
  · have c47 : (x1 < 0 ∨ 9 < x1) := by omega
    have h46 := h5.2.2.2.2.2.2.2.2.2.2 c47
    refine r_tabOut (t := 245) dX10_count_8 hx1 c47 rfl ?_
    refine r_iconst dX10_count_245 ?_
    exact r_ireturn dX10_count_246 rfl ⟨k3, _, rfl, (r32c rfl), h46⟩
theorem b_X10_count_132 {X : ZX} {d n : Nat} {P : Int → ZSto → Prop} {x3 : Int} {x4 : Int} {σ : ZSto} (hn : 104 ≤ n) 
    (h : R32 ((gI σ 73 13) * (gI σ 73 13)) ∧ ((gI σ 73 13) * (gI σ 73 13) ≤ x4 → P x3 σ) ∧ (¬ ((gI σ 73 13) * (gI σ 73 13) ≤ x4) → (0 ≤ x4 ∧ x4 < 81) ∧ (¬ gI σ 84 x4.toNat = 0 → ZkI X M_X10_flood d n [.ref (zB X + 73), iV x4] σ (fun v12 σ13 => ZkI X M_X10_head d n [.ref (zB X + 73)] σ13 (fun v17 σ18 => (¬ v17 = x4 → R32 (x3 + 0) ∧ R32 (x4 + 1) ∧ L_X10_count_132 X d n (zpI P) (x3 + 0) (x4 + 1) σ18) ∧ (v17 = x4 → R32 (x3 + 1) ∧ R32 (x4 + 1) ∧ L_X10_count_132 X d n (zpI P) (x3 + 1) (x4 + 1) σ18)))) ∧ (gI σ 84 x4.toNat = 0 → R32 (x4 + 1) ∧ L_X10_count_132 X d n (zpI P) x3 (x4 + 1) σ))) :
    L_X10_count_132 X d n (zpI P) x3 x4 σ := by
  intro hx3 hx4 k0
  unfold Zn
  refine r_iload dX10_count_132 rfl ?_
  refine r_aload_n dX10_count_134 rfl ?_
  refine r_getI dX10_count_135 kf_RX10_139 (zlt hn rfl) sh_73 (Or.inl rfl) rfl ?_
  refine r_aload_n dX10_count_138 rfl ?_
  refine r_getI dX10_count_139 kf_RX10_139 (zlt hn rfl) sh_73 (Or.inl rfl) rfl ?_
  refine r_imul dX10_count_142 ?_
  obtain ⟨h1, h2⟩ := h
  refine r_icmp_ge (t := 190) dX10_count_143 rfl hx4 h1 (fun c3 => ?_) (fun c4 => ?_)
  · have h5 := h2.1 c3
    refine r_iload_n dX10_count_190 rfl ?_
    exact r_ireturn dX10_count_191 rfl ⟨k0, _, rfl, hx3, h5⟩
  · have h6 := h2.2 c4
    refine r_aload_n dX10_count_146 rfl ?_
    refine r_getP (a := 84) dX10_count_147 kf_RX10_46 (zlt hn rfl) sh_73 rfl (k0.1 _ _ _ (zlt hn rfl) p_73_14) ?_
    refine r_iload dX10_count_150 rfl ?_
    obtain ⟨h7, h8⟩ := h6
    refine r_baloadE dX10_count_152 (zlt hn rfl) sh_84 h7.1 h7.2 rfl ?_
    refine r_if_ne (t := 159) dX10_count_153 rfl (k0.2.1 _ _)  (fun c9 => ?_) (fun c10 => ?_)
    · have h11 := h8.1 c9
      refine r_aload_n dX10_count_159 rfl ?_
      refine r_iload dX10_count_160 rfl ?_
      refine n_callV (N := M_X10_flood) (As := [iV x4]) (st := []) dX10_count_162 mk_X10_flood km_RX10_148 kd_X10_flood rfl (zlt hn rfl) sh_73 (q := (RX10, TX10, 52)) rfl rfl (zFits_rm d n n n (Nat.le_refl n)) (Nat.le_of_ble_eq_true rfl) rfl k0 h11 ?_
      rintro _ σ13 k14 ⟨v12, rfl, h15, h16⟩
      change Zm _ _ _ _ _ _ 165 _ [iV v12] _
      refine r_istore dX10_count_165 rfl rfl ?_
      refine r_iload_n dX10_count_167 rfl ?_
      refine r_aload_n dX10_count_168 rfl ?_
      refine n_callV (N := M_X10_head) (As := []) (st := [iV x3]) dX10_count_169 mk_X10_head km_RX10_284 kd_X10_head rfl (zlt hn rfl) sh_73 (q := (RX10, TX10, 52)) rfl rfl (zFits_rm d n n n (Nat.le_refl n)) (Nat.le_of_ble_eq_true rfl) rfl k14 h16 ?_
      rintro _ σ18 k19 ⟨v17, rfl, h20, h21⟩
      change Zm _ _ _ _ _ _ 172 _ [iV v17, iV x3] _
      refine r_iload dX10_count_172 rfl ?_
      refine r_icmp_ne (t := 181) dX10_count_174 rfl h20 hx4 (fun c22 => ?_) (fun c23 => ?_)
      · have h24 := h21.1 c22
        refine r_iconst dX10_count_181 ?_
        refine r_iadd dX10_count_182 ?_
        refine r_istore_n dX10_count_183 rfl rfl ?_
        refine r_iinc dX10_count_184 rfl rfl rfl ?_
        refine r_goto (t := 132) dX10_count_187 rfl ?_
        obtain ⟨h25, h26⟩ := h24
        obtain ⟨h27, h28⟩ := h26
        exact r_mask [true, false, false, true, true, false] rfl (h28 h25 h27 k19)
      · have h29 := h21.2 c23
        refine r_iconst dX10_count_177 ?_
        refine r_goto (t := 182) dX10_count_178 rfl ?_
        refine r_iadd dX10_count_182 ?_
        refine r_istore_n dX10_count_183 rfl rfl ?_
        refine r_iinc dX10_count_184 rfl rfl rfl ?_
        refine r_goto (t := 132) dX10_count_187 rfl ?_
        obtain ⟨h30, h31⟩ := h29
        obtain ⟨h32, h33⟩ := h31
        exact r_mask [true, false, false, true, true, false] rfl (h33 h30 h32 k19)
    · have h34 := h8.2 c10
      refine r_goto (t := 184) dX10_count_156 rfl ?_
      refine r_iinc dX10_count_184 rfl rfl rfl ?_
      refine r_goto (t := 132) dX10_count_187 rfl ?_
      obtain ⟨h35, h36⟩ := h34
      exact r_mask [true, false, false, true, true, false] rfl (h36 hx3 h35 k0)
theorem b_X10_count_195 {X : ZX} {d n : Nat} {P : Int → ZSto → Prop} {x3 : Int} {x4 : Int} {σ : ZSto} (hn : 104 ≤ n) 
    (h : R32 ((gI σ 73 13) * (gI σ 73 13)) ∧ ((gI σ 73 13) * (gI σ 73 13) ≤ x4 → P x3 σ) ∧ (¬ ((gI σ 73 13) * (gI σ 73 13) ≤ x4) → (0 ≤ x4 ∧ x4 < 81) ∧ (gI σ 84 x4.toNat = 0 → R32 (x3 + 0) ∧ R32 (x4 + 1) ∧ L_X10_count_195 X d n (zpI P) (x3 + 0) (x4 + 1) σ) ∧ (¬ (gI σ 84 x4.toNat = 0) → R32 (x3 + 1) ∧ R32 (x4 + 1) ∧ L_X10_count_195 X d n (zpI P) (x3 + 1) (x4 + 1) σ))) :
    L_X10_count_195 X d n (zpI P) x3 x4 σ := by
  intro hx3 hx4 k0
  unfold Zn
  refine r_iload dX10_count_195 rfl ?_
  refine r_aload_n dX10_count_197 rfl ?_
  refine r_getI dX10_count_198 kf_RX10_139 (zlt hn rfl) sh_73 (Or.inl rfl) rfl ?_
  refine r_aload_n dX10_count_201 rfl ?_
  refine r_getI dX10_count_202 kf_RX10_139 (zlt hn rfl) sh_73 (Or.inl rfl) rfl ?_
  refine r_imul dX10_count_205 ?_
  obtain ⟨h1, h2⟩ := h
  refine r_icmp_ge (t := 233) dX10_count_206 rfl hx4 h1 (fun c3 => ?_) (fun c4 => ?_)
  · have h5 := h2.1 c3
    refine r_iload_n dX10_count_233 rfl ?_
    exact r_ireturn dX10_count_234 rfl ⟨k0, _, rfl, hx3, h5⟩
  · have h6 := h2.2 c4
    refine r_iload_n dX10_count_209 rfl ?_
    refine r_aload_n dX10_count_210 rfl ?_
    refine r_getP (a := 84) dX10_count_211 kf_RX10_46 (zlt hn rfl) sh_73 rfl (k0.1 _ _ _ (zlt hn rfl) p_73_14) ?_
    refine r_iload dX10_count_214 rfl ?_
    obtain ⟨h7, h8⟩ := h6
    refine r_baloadE dX10_count_216 (zlt hn rfl) sh_84 h7.1 h7.2 rfl ?_
    refine r_if_eq (t := 224) dX10_count_217 rfl (k0.2.1 _ _)  (fun c9 => ?_) (fun c10 => ?_)
    · have h11 := h8.1 c9
      refine r_iconst dX10_count_224 ?_
      refine r_iadd dX10_count_225 ?_
      refine r_istore_n dX10_count_226 rfl rfl ?_
      refine r_iinc dX10_count_227 rfl rfl rfl ?_
      refine r_goto (t := 195) dX10_count_230 rfl ?_
      obtain ⟨h12, h13⟩ := h11
      obtain ⟨h14, h15⟩ := h13
      exact r_mask [true, false, false, true, true, false] rfl (h15 h12 h14 k0)
    · have h16 := h8.2 c10
      refine r_iconst dX10_count_220 ?_
      refine r_goto (t := 225) dX10_count_221 rfl ?_
      refine r_iadd dX10_count_225 ?_
      refine r_istore_n dX10_count_226 rfl rfl ?_
      refine r_iinc dX10_count_227 rfl rfl rfl ?_
      refine r_goto (t := 195) dX10_count_230 rfl ?_
      obtain ⟨h17, h18⟩ := h16
      obtain ⟨h19, h20⟩ := h18
      exact r_mask [true, false, false, true, true, false] rfl (h20 h17 h19 k0)
