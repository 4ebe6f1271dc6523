/-! StoneRoom$Reader.readText -/
theorem dX5_readText_0 : decode M_X5_readText.2.1 0 = .ok (.aload_n 0, 1) := by decide +kernel
theorem dX5_readText_1 : decode M_X5_readText.2.1 1 = .ok (.aload_n 1, 1) := by decide +kernel
theorem dX5_readText_2 : decode M_X5_readText.2.1 2 = .ok (.iload_n 2, 1) := by decide +kernel
theorem dX5_readText_3 : decode M_X5_readText.2.1 3 = .ok (.invokevirtual 65, 3) := by decide +kernel
theorem dX5_readText_6 : decode M_X5_readText.2.1 6 = .ok (.iconst 0, 1) := by decide +kernel
theorem dX5_readText_7 : decode M_X5_readText.2.1 7 = .ok (.istore_n 3, 1) := by decide +kernel
theorem dX5_readText_8 : decode M_X5_readText.2.1 8 = .ok (.iload_n 3, 1) := by decide +kernel
theorem dX5_readText_9 : decode M_X5_readText.2.1 9 = .ok (.sipush 1500, 3) := by decide +kernel
theorem dX5_readText_12 : decode M_X5_readText.2.1 12 = .ok (.if_icmp .gt 149, 3) := by decide +kernel
theorem dX5_readText_15 : decode M_X5_readText.2.1 15 = .ok (.aload_n 0, 1) := by decide +kernel
theorem dX5_readText_16 : decode M_X5_readText.2.1 16 = .ok (.getfield 29, 3) := by decide +kernel
theorem dX5_readText_19 : decode M_X5_readText.2.1 19 = .ok (.ifCond .ne 142, 3) := by decide +kernel
theorem dX5_readText_22 : decode M_X5_readText.2.1 22 = .ok (.aload_n 0, 1) := by decide +kernel
theorem dX5_readText_23 : decode M_X5_readText.2.1 23 = .ok (.invokevirtual 69, 3) := by decide +kernel
theorem dX5_readText_26 : decode M_X5_readText.2.1 26 = .ok (.aload_n 0, 1) := by decide +kernel
theorem dX5_readText_27 : decode M_X5_readText.2.1 27 = .ok (.getfield 53, 3) := by decide +kernel
theorem dX5_readText_30 : decode M_X5_readText.2.1 30 = .ok (.aload_n 0, 1) := by decide +kernel
theorem dX5_readText_31 : decode M_X5_readText.2.1 31 = .ok (.getfield 23, 3) := by decide +kernel
theorem dX5_readText_34 : decode M_X5_readText.2.1 34 = .ok (.invokevirtual 72, 3) := by decide +kernel
theorem dX5_readText_37 : decode M_X5_readText.2.1 37 = .ok (.istore 4, 2) := by decide +kernel
theorem dX5_readText_39 : decode M_X5_readText.2.1 39 = .ok (.iload 4, 2) := by decide +kernel
theorem dX5_readText_41 : decode M_X5_readText.2.1 41 = .ok (.bipush 59, 2) := by decide +kernel
theorem dX5_readText_43 : decode M_X5_readText.2.1 43 = .ok (.if_icmp .ne 26, 3) := by decide +kernel
theorem dX5_readText_46 : decode M_X5_readText.2.1 46 = .ok (.aload_n 0, 1) := by decide +kernel
theorem dX5_readText_47 : decode M_X5_readText.2.1 47 = .ok (.getfield 26, 3) := by decide +kernel
theorem dX5_readText_50 : decode M_X5_readText.2.1 50 = .ok (.iconst 1, 1) := by decide +kernel
theorem dX5_readText_51 : decode M_X5_readText.2.1 51 = .ok (.if_icmp .eq 11, 3) := by decide +kernel
theorem dX5_readText_54 : decode M_X5_readText.2.1 54 = .ok (.aload_n 0, 1) := by decide +kernel
theorem dX5_readText_55 : decode M_X5_readText.2.1 55 = .ok (.getfield 26, 3) := by decide +kernel
theorem dX5_readText_58 : decode M_X5_readText.2.1 58 = .ok (.iconst 2, 1) := by decide +kernel
theorem dX5_readText_59 : decode M_X5_readText.2.1 59 = .ok (.if_icmp .ne 10, 3) := by decide +kernel
theorem dX5_readText_62 : decode M_X5_readText.2.1 62 = .ok (.aload_n 0, 1) := by decide +kernel
theorem dX5_readText_63 : decode M_X5_readText.2.1 63 = .ok (.invokevirtual 78, 3) := by decide +kernel
theorem dX5_readText_66 : decode M_X5_readText.2.1 66 = .ok (.goto 89, 3) := by decide +kernel
theorem dX5_readText_69 : decode M_X5_readText.2.1 69 = .ok (.iload 4, 2) := by decide +kernel
theorem dX5_readText_71 : decode M_X5_readText.2.1 71 = .ok (.bipush 40, 2) := by decide +kernel
theorem dX5_readText_73 : decode M_X5_readText.2.1 73 = .ok (.if_icmp .ne 26, 3) := by decide +kernel
theorem dX5_readText_76 : decode M_X5_readText.2.1 76 = .ok (.aload_n 0, 1) := by decide +kernel
theorem dX5_readText_77 : decode M_X5_readText.2.1 77 = .ok (.getfield 26, 3) := by decide +kernel
theorem dX5_readText_80 : decode M_X5_readText.2.1 80 = .ok (.iconst 1, 1) := by decide +kernel
theorem dX5_readText_81 : decode M_X5_readText.2.1 81 = .ok (.if_icmp .eq 18, 3) := by decide +kernel
theorem dX5_readText_84 : decode M_X5_readText.2.1 84 = .ok (.aload_n 0, 1) := by decide +kernel
theorem dX5_readText_85 : decode M_X5_readText.2.1 85 = .ok (.getfield 26, 3) := by decide +kernel
theorem dX5_readText_88 : decode M_X5_readText.2.1 88 = .ok (.iconst 4, 1) := by decide +kernel
theorem dX5_readText_89 : decode M_X5_readText.2.1 89 = .ok (.if_icmp .eq 10, 3) := by decide +kernel
theorem dX5_readText_92 : decode M_X5_readText.2.1 92 = .ok (.aload_n 0, 1) := by decide +kernel
theorem dX5_readText_93 : decode M_X5_readText.2.1 93 = .ok (.invokevirtual 81, 3) := by decide +kernel
theorem dX5_readText_96 : decode M_X5_readText.2.1 96 = .ok (.goto 59, 3) := by decide +kernel
theorem dX5_readText_99 : decode M_X5_readText.2.1 99 = .ok (.iload 4, 2) := by decide +kernel
theorem dX5_readText_101 : decode M_X5_readText.2.1 101 = .ok (.bipush 41, 2) := by decide +kernel
theorem dX5_readText_103 : decode M_X5_readText.2.1 103 = .ok (.if_icmp .ne 26, 3) := by decide +kernel
theorem dX5_readText_106 : decode M_X5_readText.2.1 106 = .ok (.aload_n 0, 1) := by decide +kernel
theorem dX5_readText_107 : decode M_X5_readText.2.1 107 = .ok (.getfield 26, 3) := by decide +kernel
theorem dX5_readText_110 : decode M_X5_readText.2.1 110 = .ok (.iconst 2, 1) := by decide +kernel
theorem dX5_readText_111 : decode M_X5_readText.2.1 111 = .ok (.if_icmp .eq 11, 3) := by decide +kernel
theorem dX5_readText_114 : decode M_X5_readText.2.1 114 = .ok (.aload_n 0, 1) := by decide +kernel
theorem dX5_readText_115 : decode M_X5_readText.2.1 115 = .ok (.getfield 26, 3) := by decide +kernel
theorem dX5_readText_118 : decode M_X5_readText.2.1 118 = .ok (.iconst 3, 1) := by decide +kernel
theorem dX5_readText_119 : decode M_X5_readText.2.1 119 = .ok (.if_icmp .ne 10, 3) := by decide +kernel
theorem dX5_readText_122 : decode M_X5_readText.2.1 122 = .ok (.aload_n 0, 1) := by decide +kernel
theorem dX5_readText_123 : decode M_X5_readText.2.1 123 = .ok (.invokevirtual 84, 3) := by decide +kernel
theorem dX5_readText_126 : decode M_X5_readText.2.1 126 = .ok (.goto 29, 3) := by decide +kernel
theorem dX5_readText_129 : decode M_X5_readText.2.1 129 = .ok (.iload 4, 2) := by decide +kernel
theorem dX5_readText_131 : decode M_X5_readText.2.1 131 = .ok (.iconst (-1), 1) := by decide +kernel
theorem dX5_readText_132 : decode M_X5_readText.2.1 132 = .ok (.if_icmp .ne 14, 3) := by decide +kernel
theorem dX5_readText_135 : decode M_X5_readText.2.1 135 = .ok (.aload_n 0, 1) := by decide +kernel
theorem dX5_readText_136 : decode M_X5_readText.2.1 136 = .ok (.getfield 26, 3) := by decide +kernel
theorem dX5_readText_139 : decode M_X5_readText.2.1 139 = .ok (.iconst 4, 1) := by decide +kernel
theorem dX5_readText_140 : decode M_X5_readText.2.1 140 = .ok (.if_icmp .ne 6, 3) := by decide +kernel
theorem dX5_readText_143 : decode M_X5_readText.2.1 143 = .ok (.goto 18, 3) := by decide +kernel
theorem dX5_readText_146 : decode M_X5_readText.2.1 146 = .ok (.aload_n 0, 1) := by decide +kernel
theorem dX5_readText_147 : decode M_X5_readText.2.1 147 = .ok (.iconst 1, 1) := by decide +kernel
theorem dX5_readText_148 : decode M_X5_readText.2.1 148 = .ok (.aload_n 0, 1) := by decide +kernel
theorem dX5_readText_149 : decode M_X5_readText.2.1 149 = .ok (.getfield 23, 3) := by decide +kernel
theorem dX5_readText_152 : decode M_X5_readText.2.1 152 = .ok (.invokevirtual 87, 3) := by decide +kernel
theorem dX5_readText_155 : decode M_X5_readText.2.1 155 = .ok (.iinc 3 1, 3) := by decide +kernel
theorem dX5_readText_158 : decode M_X5_readText.2.1 158 = .ok (.goto (-150), 3) := by decide +kernel
theorem dX5_readText_161 : decode M_X5_readText.2.1 161 = .ok (.aload_n 0, 1) := by decide +kernel
theorem dX5_readText_162 : decode M_X5_readText.2.1 162 = .ok (.getfield 29, 3) := by decide +kernel
theorem dX5_readText_165 : decode M_X5_readText.2.1 165 = .ok (.ireturn, 1) := by decide +kernel
def L_X5_readText_8 (X : ZX) (d n : Nat) (P : Option Value → ZSto → Prop) (x3 : Int) (σ : ZSto) : Prop := R32 x3 → ZOk n σ → Zn X M_X5_readText d n P 8 [some (.ref (zB X + 49)), none, none, some (iV x3), none] [] σ
def L_X5_readText_69 (X : ZX) (d n : Nat) (P : Option Value → ZSto → Prop) (x3 : Int) (x4 : Int) (σ : ZSto) : Prop := R32 x3 → R32 x4 → ZOk n σ → Zn X M_X5_readText d n P 69 [some (.ref (zB X + 49)), none, none, some (iV x3), some (iV x4)] [] σ
def L_X5_readText_99 (X : ZX) (d n : Nat) (P : Option Value → ZSto → Prop) (x3 : Int) (x4 : Int) (σ : ZSto) : Prop := R32 x3 → R32 x4 → ZOk n σ → Zn X M_X5_readText d n P 99 [some (.ref (zB X + 49)), none, none, some (iV x3), some (iV x4)] [] σ
def L_X5_readText_129 (X : ZX) (d n : Nat) (P : Option Value → ZSto → Prop) (x3 : Int) (x4 : Int) (σ : ZSto) : Prop := R32 x3 → R32 x4 → ZOk n σ → Zn X M_X5_readText d n P 129 [some (.ref (zB X + 49)), none, none, some (iV x3), some (iV x4)] [] σ
theorem w_X5_readText {X : ZX} {d n : Nat} {P : Int → ZSto → Prop} {o1 : Nat} {x2 : Int} {σ : ZSto} (hn : 73 ≤ n) (hc1 : zIsT o1) (hx2 : R32 x2)
    (h : ZkV X M_X5_startText d n [.ref (zB X + 49), .ref (zB X + o1), iV x2] σ (fun σ2 => L_X5_readText_8 X d n (zpI P) 0 σ2)) :
    ZkI X M_X5_readText (d + 1) n [.ref (zB X + 49), .ref (zB X + o1), iV x2] σ P := by
  refine zk_of (ls := [some (.ref (zB X + 49)), some (.ref (zB X + o1)), some (iV x2), none, none]) pl_RX5 (Nat.le_of_ble_eq_true rfl) rfl (fun k0 => ?_)
  unfold Zn
  refine r_aload_n dX5_readText_0 rfl ?_
  refine r_aload_n dX5_readText_1 rfl ?_
  refine r_iload_n dX5_readText_2 rfl ?_
  refine n_callV (N := M_X5_startText) (As := [.ref (zB X + o1), iV x2]) (st := []) dX5_readText_3 mk_X5_startText km_RX5_65 kd_X5_startText rfl (zlt hn rfl) sh_49 (q := (RX5, TX5, 16)) rfl rfl (zFits_rm d n n n (Nat.le_refl n)) (Nat.le_of_ble_eq_true rfl) rfl k0 h ?_
  rintro _ σ2 k3 ⟨rfl, h5⟩
  change Zm _ _ _ _ _ _ 6 _ [] _
  refine r_iconst dX5_readText_6 ?_
  refine r_istore_n dX5_readText_7 rfl rfl ?_
  exact r_mask [true, false, false, true, false] rfl (h5 (r32c rfl) k3)
theorem b_X5_readText_8 {X : ZX} {d n : Nat} {P : Int → ZSto → Prop} {x3 : Int} {σ : ZSto} (hn : 73 ≤ n) 
    (h : (1500 < x3 → P (gI σ 49 8) σ) ∧ (¬ (1500 < x3) → (¬ gI σ 49 8 = 0 → P (gI σ 49 8) σ) ∧ (gI σ 49 8 = 0 → ZkV X M_X5_skipBlanks d n [.ref (zB X + 49)] σ (fun σ10 => ZkI X M_X1_byteAt d n [.ref (zB X + 29), iV (gI σ10 49 6)] σ10 (fun v14 σ15 => (¬ v14 = 59 → L_X5_readText_69 X d n (zpI P) x3 v14 σ15) ∧ (v14 = 59 → (gI σ15 49 7 = 1 → ZkV X M_X5_readNode d n [.ref (zB X + 49)] σ15 (fun σ27 => R32 (x3 + 1) ∧ L_X5_readText_8 X d n (zpI P) (x3 + 1) σ27)) ∧ (¬ (gI σ15 49 7 = 1) → (¬ gI σ15 49 7 = 2 → L_X5_readText_69 X d n (zpI P) x3 v14 σ15) ∧ (gI σ15 49 7 = 2 → ZkV X M_X5_readNode d n [.ref (zB X + 49)] σ15 (fun σ39 => R32 (x3 + 1) ∧ L_X5_readText_8 X d n (zpI P) (x3 + 1) σ39))))))))) :
    L_X5_readText_8 X d n (zpI P) x3 σ := by
  intro hx3 k0
  unfold Zn
  refine r_iload_n dX5_readText_8 rfl ?_
  refine r_sipush dX5_readText_9 rfl ?_
  refine r_icmp_gt (t := 161) dX5_readText_12 rfl hx3 (r32c rfl) (fun c1 => ?_) (fun c2 => ?_)
  · have h3 := h.1 c1
    refine r_aload_n dX5_readText_161 rfl ?_
    refine r_getI dX5_readText_162 kf_RX5_29 (zlt hn rfl) sh_49 (Or.inl rfl) rfl ?_
    exact r_ireturn dX5_readText_165 rfl ⟨k0, _, rfl, (k0.2.1 _ _), h3⟩
  · have h4 := h.2 c2
    refine r_aload_n dX5_readText_15 rfl ?_
    refine r_getI dX5_readText_16 kf_RX5_29 (zlt hn rfl) sh_49 (Or.inl rfl) rfl ?_
    refine r_if_ne (t := 161) dX5_readText_19 rfl (k0.2.1 _ _)  (fun c5 => ?_) (fun c6 => ?_)
    · have h7 := h4.1 c5
      refine r_aload_n dX5_readText_161 rfl ?_
      refine r_getI dX5_readText_162 kf_RX5_29 (zlt hn rfl) sh_49 (Or.inl rfl) rfl ?_
      exact r_ireturn dX5_readText_165 rfl ⟨k0, _, rfl, (k0.2.1 _ _), h7⟩
    · have h8 := h4.2 c6
      refine r_aload_n dX5_readText_22 rfl ?_
      refine n_callV (N := M_X5_skipBlanks) (As := []) (st := []) dX5_readText_23 mk_X5_skipBlanks km_RX5_69 kd_X5_skipBlanks rfl (zlt hn rfl) sh_49 (q := (RX5, TX5, 16)) rfl rfl (zFits_rm d n n n (Nat.le_refl n)) (Nat.le_of_ble_eq_true rfl) rfl k0 h8 ?_
      rintro _ σ10 k11 ⟨rfl, h13⟩
      change Zm _ _ _ _ _ _ 26 _ [] _
      refine r_aload_n dX5_readText_26 rfl ?_
      refine r_getP (a := 29) dX5_readText_27 kf_RX5_53 (zlt hn rfl) sh_49 rfl (k11.1 _ _ _ (zlt hn rfl) p_49_0) ?_
      refine r_aload_n dX5_readText_30 rfl ?_
      refine r_getI dX5_readText_31 kf_RX5_23 (zlt hn rfl) sh_49 (Or.inl rfl) rfl ?_
      refine n_callV (N := M_X1_byteAt) (As := [iV (gI σ10 49 6)]) (st := []) dX5_readText_34 mk_X1_byteAt km_RX5_72 kd_X1_byteAt rfl (zlt hn rfl) sh_29 (q := (RX1, TX1, 2)) rfl rfl (zFits_rm d n n n (Nat.le_refl n)) (Nat.le_of_ble_eq_true rfl) rfl k11 h13 ?_
      rintro _ σ15 k16 ⟨v14, rfl, h17, h18⟩
      change Zm _ _ _ _ _ _ 37 _ [iV v14] _
      refine r_istore dX5_readText_37 rfl rfl ?_
      refine r_iload dX5_readText_39 rfl ?_
      refine r_bipush dX5_readText_41 rfl ?_
      refine r_icmp_ne (t := 69) dX5_readText_43 rfl h17 (r32c rfl) (fun c19 => ?_) (fun c20 => ?_)
      · have h21 := h18.1 c19
        exact r_mask [true, false, false, true, true] rfl (h21 hx3 h17 k16)
      · have h22 := h18.2 c20
        refine r_aload_n dX5_readText_46 rfl ?_
        refine r_getI dX5_readText_47 kf_RX5_26 (zlt hn rfl) sh_49 (Or.inl rfl) rfl ?_
        refine r_iconst dX5_readText_50 ?_
        refine r_icmp_eq (t := 62) dX5_readText_51 rfl (k16.2.1 _ _) (r32c rfl) (fun c23 => ?_) (fun c24 => ?_)
        · have h25 := h22.1 c23
          refine r_aload_n dX5_readText_62 rfl ?_
          refine n_callV (N := M_X5_readNode) (As := []) (st := []) dX5_readText_63 mk_X5_readNode km_RX5_78 kd_X5_readNode rfl (zlt hn rfl) sh_49 (q := (RX5, TX5, 16)) rfl rfl (zFits_rm d n n n (Nat.le_refl n)) (Nat.le_of_ble_eq_true rfl) rfl k16 h25 ?_
          rintro _ σ27 k28 ⟨rfl, h30⟩
          change Zm _ _ _ _ _ _ 66 _ [] _
          refine r_goto (t := 155) dX5_readText_66 rfl ?_
          refine r_iinc dX5_readText_155 rfl rfl rfl ?_
          refine r_goto (t := 8) dX5_readText_158 rfl ?_
          obtain ⟨h31, h32⟩ := h30
          exact r_mask [true, false, false, true, false] rfl (h32 h31 k28)
        · have h33 := h22.2 c24
          refine r_aload_n dX5_readText_54 rfl ?_
          refine r_getI dX5_readText_55 kf_RX5_26 (zlt hn rfl) sh_49 (Or.inl rfl) rfl ?_
          refine r_iconst dX5_readText_58 ?_
          refine r_icmp_ne (t := 69) dX5_readText_59 rfl (k16.2.1 _ _) (r32c rfl) (fun c34 => ?_) (fun c35 => ?_)
          · have h36 := h33.1 c34
            exact r_mask [true, false, false, true, true] rfl (h36 hx3 h17 k16)
          · have h37 := h33.2 c35
            refine r_aload_n dX5_readText_62 rfl ?_
            refine n_callV (N := M_X5_readNode) (As := []) (st := []) dX5_readText_63 mk_X5_readNode km_RX5_78 kd_X5_readNode rfl (zlt hn rfl) sh_49 (q := (RX5, TX5, 16)) rfl rfl (zFits_rm d n n n (Nat.le_refl n)) (Nat.le_of_ble_eq_true rfl) rfl k16 h37 ?_
            rintro _ σ39 k40 ⟨rfl, h42⟩
            change Zm _ _ _ _ _ _ 66 _ [] _
            refine r_goto (t := 155) dX5_readText_66 rfl ?_
            refine r_iinc dX5_readText_155 rfl rfl rfl ?_
            refine r_goto (t := 8) dX5_readText_158 rfl ?_
            obtain ⟨h43, h44⟩ := h42
            exact r_mask [true, false, false, true, false] rfl (h44 h43 k40)
theorem b_X5_readText_69 {X : ZX} {d n : Nat} {P : Int → ZSto → Prop} {x3 : Int} {x4 : Int} {σ : ZSto} (hn : 73 ≤ n) 
    (h : (¬ x4 = 40 → L_X5_readText_99 X d n (zpI P) x3 x4 σ) ∧ (x4 = 40 → (gI σ 49 7 = 1 → L_X5_readText_99 X d n (zpI P) x3 x4 σ) ∧ (¬ (gI σ 49 7 = 1) → (gI σ 49 7 = 4 → L_X5_readText_99 X d n (zpI P) x3 x4 σ) ∧ (¬ (gI σ 49 7 = 4) → ZkV X M_X5_openTree d n [.ref (zB X + 49)] σ (fun σ14 => R32 (x3 + 1) ∧ L_X5_readText_8 X d n (zpI P) (x3 + 1) σ14))))) :
    L_X5_readText_69 X d n (zpI P) x3 x4 σ := by
  intro hx3 hx4 k0
  unfold Zn
  refine r_iload dX5_readText_69 rfl ?_
  refine r_bipush dX5_readText_71 rfl ?_
  refine r_icmp_ne (t := 99) dX5_readText_73 rfl hx4 (r32c rfl) (fun c1 => ?_) (fun c2 => ?_)
  · have h3 := h.1 c1
    exact r_mask [true, false, false, true, true] rfl (h3 hx3 hx4 k0)
  · have h4 := h.2 c2
    refine r_aload_n dX5_readText_76 rfl ?_
    refine r_getI dX5_readText_77 kf_RX5_26 (zlt hn rfl) sh_49 (Or.inl rfl) rfl ?_
    refine r_iconst dX5_readText_80 ?_
    refine r_icmp_eq (t := 99) dX5_readText_81 rfl (k0.2.1 _ _) (r32c rfl) (fun c5 => ?_) (fun c6 => ?_)
    · have h7 := h4.1 c5
      exact r_mask [true, false, false, true, true] rfl (h7 hx3 hx4 k0)
    · have h8 := h4.2 c6
      refine r_aload_n dX5_readText_84 rfl ?_
      refine r_getI dX5_readText_85 kf_RX5_26 (zlt hn rfl) sh_49 (Or.inl rfl) rfl ?_
      refine r_iconst dX5_readText_88 ?_
      refine r_icmp_eq (t := 99) dX5_readText_89 rfl (k0.2.1 _ _) (r32c rfl) (fun c9 => ?_) (fun c10 => ?_)
      · have h11 := h8.1 c9
        exact r_mask [true, false, false, true, true] rfl (h11 hx3 hx4 k0)
      · have h12 := h8.2 c10
        refine r_aload_n dX5_readText_92 rfl ?_
        refine n_callV (N := M_X5_openTree) (As := []) (st := []) dX5_readText_93 mk_X5_openTree km_RX5_81 kd_X5_openTree rfl (zlt hn rfl) sh_49 (q := (RX5, TX5, 16)) rfl rfl (zFits_rm d n n n (Nat.le_refl n)) (Nat.le_of_ble_eq_true rfl) rfl k0 h12 ?_
        rintro _ σ14 k15 ⟨rfl, h17⟩
        change Zm _ _ _ _ _ _ 96 _ [] _
        refine r_goto (t := 155) dX5_readText_96 rfl ?_
        refine r_iinc dX5_readText_155 rfl rfl rfl ?_
        refine r_goto (t := 8) dX5_readText_158 rfl ?_
        obtain ⟨h18, h19⟩ := h17
        exact r_mask [true, false, false, true, false] rfl (h19 h18 k15)
theorem b_X5_readText_99 {X : ZX} {d n : Nat} {P : Int → ZSto → Prop} {x3 : Int} {x4 : Int} {σ : ZSto} (hn : 73 ≤ n) 
    (h : (¬ x4 = 41 → L_X5_readText_129 X d n (zpI P) x3 x4 σ) ∧ (x4 = 41 → (gI σ 49 7 = 2 → ZkV X M_X5_closeTree d n [.ref (zB X + 49)] σ (fun σ9 => R32 (x3 + 1) ∧ L_X5_readText_8 X d n (zpI P) (x3 + 1) σ9)) ∧ (¬ (gI σ 49 7 = 2) → (¬ gI σ 49 7 = 3 → L_X5_readText_129 X d n (zpI P) x3 x4 σ) ∧ (gI σ 49 7 = 3 → ZkV X M_X5_closeTree d n [.ref (zB X + 49)] σ (fun σ21 => R32 (x3 + 1) ∧ L_X5_readText_8 X d n (zpI P) (x3 + 1) σ21))))) :
    L_X5_readText_99 X d n (zpI P) x3 x4 σ := by
  intro hx3 hx4 k0
  unfold Zn
  refine r_iload dX5_readText_99 rfl ?_
  refine r_bipush dX5_readText_101 rfl ?_
  refine r_icmp_ne (t := 129) dX5_readText_103 rfl hx4 (r32c rfl) (fun c1 => ?_) (fun c2 => ?_)
  · have h3 := h.1 c1
    exact r_mask [true, false, false, true, true] rfl (h3 hx3 hx4 k0)
  · have h4 := h.2 c2
    refine r_aload_n dX5_readText_106 rfl ?_
    refine r_getI dX5_readText_107 kf_RX5_26 (zlt hn rfl) sh_49 (Or.inl rfl) rfl ?_
    refine r_iconst dX5_readText_110 ?_
    refine r_icmp_eq (t := 122) dX5_readText_111 rfl (k0.2.1 _ _) (r32c rfl) (fun c5 => ?_) (fun c6 => ?_)
    · have h7 := h4.1 c5
      refine r_aload_n dX5_readText_122 rfl ?_
      refine n_callV (N := M_X5_closeTree) (As := []) (st := []) dX5_readText_123 mk_X5_closeTree km_RX5_84 kd_X5_closeTree rfl (zlt hn rfl) sh_49 (q := (RX5, TX5, 16)) rfl rfl (zFits_rm d n n n (Nat.le_refl n)) (Nat.le_of_ble_eq_true rfl) rfl k0 h7 ?_
      rintro _ σ9 k10 ⟨rfl, h12⟩
      change Zm _ _ _ _ _ _ 126 _ [] _
      refine r_goto (t := 155) dX5_readText_126 rfl ?_
      refine r_iinc dX5_readText_155 rfl rfl rfl ?_
      refine r_goto (t := 8) dX5_readText_158 rfl ?_
      obtain ⟨h13, h14⟩ := h12
      exact r_mask [true, false, false, true, false] rfl (h14 h13 k10)
    · have h15 := h4.2 c6
      refine r_aload_n dX5_readText_114 rfl ?_
      refine r_getI dX5_readText_115 kf_RX5_26 (zlt hn rfl) sh_49 (Or.inl rfl) rfl ?_
      refine r_iconst dX5_readText_118 ?_
      refine r_icmp_ne (t := 129) dX5_readText_119 rfl (k0.2.1 _ _) (r32c rfl) (fun c16 => ?_) (fun c17 => ?_)
      · have h18 := h15.1 c16
        exact r_mask [true, false, false, true, true] rfl (h18 hx3 hx4 k0)
      · have h19 := h15.2 c17
        refine r_aload_n dX5_readText_122 rfl ?_
        refine n_callV (N := M_X5_closeTree) (As := []) (st := []) dX5_readText_123 mk_X5_closeTree km_RX5_84 kd_X5_closeTree rfl (zlt hn rfl) sh_49 (q := (RX5, TX5, 16)) rfl rfl (zFits_rm d n n n (Nat.le_refl n)) (Nat.le_of_ble_eq_true rfl) rfl k0 h19 ?_
        rintro _ σ21 k22 ⟨rfl, h24⟩
        change Zm _ _ _ _ _ _ 126 _ [] _
        refine r_goto (t := 155) dX5_readText_126 rfl ?_
        refine r_iinc dX5_readText_155 rfl rfl rfl ?_
        refine r_goto (t := 8) dX5_readText_158 rfl ?_
        obtain ⟨h25, h26⟩ := h24
        exact r_mask [true, false, false, true, false] rfl (h26 h25 k22)
theorem b_X5_readText_129 {X : ZX} {d n : Nat} {P : Int → ZSto → Prop} {x3 : Int} {x4 : Int} {σ : ZSto} (hn : 73 ≤ n) 
    (h : (¬ x4 = (-1) → ZkV X M_X5_fail d n [.ref (zB X + 49), iV 1, iV (gI σ 49 6)] σ (fun σ5 => R32 (x3 + 1) ∧ L_X5_readText_8 X d n (zpI P) (x3 + 1) σ5)) ∧ (x4 = (-1) → (¬ gI σ 49 7 = 4 → ZkV X M_X5_fail d n [.ref (zB X + 49), iV 1, iV (gI σ 49 6)] σ (fun σ16 => R32 (x3 + 1) ∧ L_X5_readText_8 X d n (zpI P) (x3 + 1) σ16)) ∧ (gI σ 49 7 = 4 → P (gI σ 49 8) σ))) :
    L_X5_readText_129 X d n (zpI P) x3 x4 σ := by
  intro hx3 hx4 k0
  unfold Zn
  refine r_iload dX5_readText_129 rfl ?_
  refine r_iconst dX5_readText_131 ?_
  refine r_icmp_ne (t := 146) dX5_readText_132 rfl hx4 (r32c rfl) (fun c1 => ?_) (fun c2 => ?_)
  · have h3 := h.1 c1
    refine r_aload_n dX5_readText_146 rfl ?_
    refine r_iconst dX5_readText_147 ?_
    refine r_aload_n dX5_readText_148 rfl ?_
    refine r_getI dX5_readText_149 kf_RX5_23 (zlt hn rfl) sh_49 (Or.inl rfl) rfl ?_
    refine n_callV (N := M_X5_fail) (As := [iV 1, iV (gI σ 49 6)]) (st := []) dX5_readText_152 mk_X5_fail km_RX5_87 kd_X5_fail rfl (zlt hn rfl) sh_49 (q := (RX5, TX5, 16)) rfl rfl (zFits_rm d n n n (Nat.le_refl n)) (Nat.le_of_ble_eq_true rfl) rfl k0 h3 ?_
    rintro _ σ5 k6 ⟨rfl, h8⟩
    change Zm _ _ _ _ _ _ 155 _ [] _
    refine r_iinc dX5_readText_155 rfl rfl rfl ?_
    refine r_goto (t := 8) dX5_readText_158 rfl ?_
    obtain ⟨h9, h10⟩ := h8
    exact r_mask [true, false, false, true, false] rfl (h10 h9 k6)
  · have h11 := h.2 c2
    refine r_aload_n dX5_readText_135 rfl ?_
    refine r_getI dX5_readText_136 kf_RX5_26 (zlt hn rfl) sh_49 (Or.inl rfl) rfl ?_
    refine r_iconst dX5_readText_139 ?_
    refine r_icmp_ne (t := 146) dX5_readText_140 rfl (k0.2.1 _ _) (r32c rfl) (fun c12 => ?_) (fun c13 => ?_)
    · have h14 := h11.1 c12
      refine r_aload_n dX5_readText_146 rfl ?_
      refine r_iconst dX5_readText_147 ?_
      refine r_aload_n dX5_readText_148 rfl ?_
      refine r_getI dX5_readText_149 kf_RX5_23 (zlt hn rfl) sh_49 (Or.inl rfl) rfl ?_
      refine n_callV (N := M_X5_fail) (As := [iV 1, iV (gI σ 49 6)]) (st := []) dX5_readText_152 mk_X5_fail km_RX5_87 kd_X5_fail rfl (zlt hn rfl) sh_49 (q := (RX5, TX5, 16)) rfl rfl (zFits_rm d n n n (Nat.le_refl n)) (Nat.le_of_ble_eq_true rfl) rfl k0 h14 ?_
      rintro _ σ16 k17 ⟨rfl, h19⟩
      change Zm _ _ _ _ _ _ 155 _ [] _
      refine r_iinc dX5_readText_155 rfl rfl rfl ?_
      refine r_goto (t := 8) dX5_readText_158 rfl ?_
      obtain ⟨h20, h21⟩ := h19
      exact r_mask [true, false, false, true, false] rfl (h21 h20 k17)
    · have h22 := h11.2 c13
      refine r_goto (t := 161) dX5_readText_143 rfl ?_
      refine r_aload_n dX5_readText_161 rfl ?_
      refine r_getI dX5_readText_162 kf_RX5_29 (zlt hn rfl) sh_49 (Or.inl rfl) rfl ?_
      exact r_ireturn dX5_readText_165 rfl ⟨k0, _, rfl, (k0.2.1 _ _), h22⟩
/-! StoneRoom$Reader.startText -/
theorem dX5_startText_0 : decode M_X5_startText.2.1 0 = .ok (.aload_n 0, 1) := by decide +kernel
theorem dX5_startText_1 : decode M_X5_startText.2.1 1 = .ok (.aload_n 1, 1) := by decide +kernel
theorem dX5_startText_2 : decode M_X5_startText.2.1 2 = .ok (.putfield 61, 3) := by decide +kernel
theorem dX5_startText_5 : decode M_X5_startText.2.1 5 = .ok (.aload_n 0, 1) := by decide +kernel
theorem dX5_startText_6 : decode M_X5_startText.2.1 6 = .ok (.getfield 61, 3) := by decide +kernel
theorem dX5_startText_9 : decode M_X5_startText.2.1 9 = .ok (.bipush 9, 2) := by decide +kernel
theorem dX5_startText_11 : decode M_X5_startText.2.1 11 = .ok (.iconst 0, 1) := by decide +kernel
theorem dX5_startText_12 : decode M_X5_startText.2.1 12 = .ok (.invokevirtual 91, 3) := by decide +kernel
theorem dX5_startText_15 : decode M_X5_startText.2.1 15 = .ok (.aload_n 0, 1) := by decide +kernel
theorem dX5_startText_16 : decode M_X5_startText.2.1 16 = .ok (.iload_n 2, 1) := by decide +kernel
theorem dX5_startText_17 : decode M_X5_startText.2.1 17 = .ok (.putfield 19, 3) := by decide +kernel
theorem dX5_startText_20 : decode M_X5_startText.2.1 20 = .ok (.aload_n 0, 1) := by decide +kernel
theorem dX5_startText_21 : decode M_X5_startText.2.1 21 = .ok (.iconst 0, 1) := by decide +kernel
theorem dX5_startText_22 : decode M_X5_startText.2.1 22 = .ok (.putfield 23, 3) := by decide +kernel
theorem dX5_startText_25 : decode M_X5_startText.2.1 25 = .ok (.aload_n 0, 1) := by decide +kernel
theorem dX5_startText_26 : decode M_X5_startText.2.1 26 = .ok (.iconst 0, 1) := by decide +kernel
theorem dX5_startText_27 : decode M_X5_startText.2.1 27 = .ok (.putfield 26, 3) := by decide +kernel
theorem dX5_startText_30 : decode M_X5_startText.2.1 30 = .ok (.aload_n 0, 1) := by decide +kernel
theorem dX5_startText_31 : decode M_X5_startText.2.1 31 = .ok (.iconst 0, 1) := by decide +kernel
theorem dX5_startText_32 : decode M_X5_startText.2.1 32 = .ok (.putfield 29, 3) := by decide +kernel
theorem dX5_startText_35 : decode M_X5_startText.2.1 35 = .ok (.aload_n 0, 1) := by decide +kernel
theorem dX5_startText_36 : decode M_X5_startText.2.1 36 = .ok (.iconst (-1), 1) := by decide +kernel
theorem dX5_startText_37 : decode M_X5_startText.2.1 37 = .ok (.putfield 32, 3) := by decide +kernel
theorem dX5_startText_40 : decode M_X5_startText.2.1 40 = .ok (.aload_n 0, 1) := by decide +kernel
theorem dX5_startText_41 : decode M_X5_startText.2.1 41 = .ok (.iconst 0, 1) := by decide +kernel
theorem dX5_startText_42 : decode M_X5_startText.2.1 42 = .ok (.putfield 35, 3) := by decide +kernel
theorem dX5_startText_45 : decode M_X5_startText.2.1 45 = .ok (.aload_n 0, 1) := by decide +kernel
theorem dX5_startText_46 : decode M_X5_startText.2.1 46 = .ok (.iconst (-1), 1) := by decide +kernel
theorem dX5_startText_47 : decode M_X5_startText.2.1 47 = .ok (.putfield 38, 3) := by decide +kernel
theorem dX5_startText_50 : decode M_X5_startText.2.1 50 = .ok (.return_, 1) := by decide +kernel
theorem w_X5_startText {X : ZX} {d n : Nat} {P : ZSto → Prop} {o1 : Nat} {x2 : Int} {σ : ZSto} (hn : 73 ≤ n) (hc1 : zIsT o1) (hx2 : R32 x2)
    (h : ZkV X M_X7_clear d n [.ref (zB X + o1), iV 9, iV 0] (sP σ 49 4 ((some o1))) (fun σ3 => P (sI (sI (sI (sI (sI (sI (sI σ3 49 5 x2) 49 6 0) 49 7 0) 49 8 0) 49 9 ((-1))) 49 10 0) 49 11 ((-1))))) :
    ZkV X M_X5_startText (d + 1) n [.ref (zB X + 49), .ref (zB X + o1), iV x2] σ P := by
  refine zk_of (ls := [some (.ref (zB X + 49)), some (.ref (zB X + o1)), some (iV x2)]) pl_RX5 (Nat.le_of_ble_eq_true rfl) rfl (fun k0 => ?_)
  unfold Zn
  refine r_aload_n dX5_startText_0 rfl ?_
  refine r_aload_n dX5_startText_1 rfl ?_
  refine r_putP dX5_startText_2 kf_RX5_61 (zlt hn rfl) sh_49 rfl rfl ?_
  have k1 := zok_p (a := 49) (i := 4) (x := some o1) k0 rfl
  refine r_aload_n dX5_startText_5 rfl ?_
  refine r_getP (a := o1) dX5_startText_6 kf_RX5_61 (zlt hn rfl) sh_49 rfl (gP_same _ _ _ _) ?_
  refine r_bipush dX5_startText_9 rfl ?_
  refine r_iconst dX5_startText_11 ?_
  refine n_callV (N := M_X7_clear) (As := [iV 9, iV 0]) (st := []) dX5_startText_12 mk_X7_clear km_RX5_91 kd_X7_clear rfl (zT_lt hc1 hn) (zT_s hc1) (q := (RX7, TX7, 17)) rfl rfl (zFits_rm d n n n (Nat.le_refl n)) (Nat.le_of_ble_eq_true rfl) rfl k1 h ?_
  rintro _ σ3 k4 ⟨rfl, h6⟩
  change Zm _ _ _ _ _ _ 15 _ [] _
  refine r_aload_n dX5_startText_15 rfl ?_
  refine r_iload_n dX5_startText_16 rfl ?_
  refine r_putI dX5_startText_17 kf_RX5_19 (zlt hn rfl) sh_49 rfl (Or.inl rfl) ?_
  have k7 := zok_o (i := 5) (x := x2) k4 sh_49 hx2
  refine r_aload_n dX5_startText_20 rfl ?_
  refine r_iconst dX5_startText_21 ?_
  refine r_putI dX5_startText_22 kf_RX5_23 (zlt hn rfl) sh_49 rfl (Or.inl rfl) ?_
  have k8 := zok_o (i := 6) (x := 0) k7 sh_49 (r32c rfl)
  refine r_aload_n dX5_startText_25 rfl ?_
  refine r_iconst dX5_startText_26 ?_
  refine r_putI dX5_startText_27 kf_RX5_26 (zlt hn rfl) sh_49 rfl (Or.inl rfl) ?_
  have k9 := zok_o (i := 7) (x := 0) k8 sh_49 (r32c rfl)
  refine r_aload_n dX5_startText_30 rfl ?_
  refine r_iconst dX5_startText_31 ?_
  refine r_putI dX5_startText_32 kf_RX5_29 (zlt hn rfl) sh_49 rfl (Or.inl rfl) ?_
  have k10 := zok_o (i := 8) (x := 0) k9 sh_49 (r32c rfl)
  refine r_aload_n dX5_startText_35 rfl ?_
  refine r_iconst dX5_startText_36 ?_
  refine r_putI dX5_startText_37 kf_RX5_32 (zlt hn rfl) sh_49 rfl (Or.inl rfl) ?_
  have k11 := zok_o (i := 9) (x := (-1)) k10 sh_49 (r32c rfl)
  refine r_aload_n dX5_startText_40 rfl ?_
  refine r_iconst dX5_startText_41 ?_
  refine r_putI dX5_startText_42 kf_RX5_35 (zlt hn rfl) sh_49 rfl (Or.inl rfl) ?_
  have k12 := zok_o (i := 10) (x := 0) k11 sh_49 (r32c rfl)
  refine r_aload_n dX5_startText_45 rfl ?_
  refine r_iconst dX5_startText_46 ?_
  refine r_putI dX5_startText_47 kf_RX5_38 (zlt hn rfl) sh_49 rfl (Or.inl rfl) ?_
  have k13 := zok_o (i := 11) (x := (-1)) k12 sh_49 (r32c rfl)
  exact r_return dX5_startText_50 rfl ⟨k13, rfl, h6⟩
/-! StoneRoom$Reader.fail -/
theorem dX5_fail_0 : decode M_X5_fail.2.1 0 = .ok (.aload_n 0, 1) := by decide +kernel
theorem dX5_fail_1 : decode M_X5_fail.2.1 1 = .ok (.iload_n 1, 1) := by decide +kernel
theorem dX5_fail_2 : decode M_X5_fail.2.1 2 = .ok (.putfield 29, 3) := by decide +kernel
theorem dX5_fail_5 : decode M_X5_fail.2.1 5 = .ok (.aload_n 0, 1) := by decide +kernel
theorem dX5_fail_6 : decode M_X5_fail.2.1 6 = .ok (.iload_n 2, 1) := by decide +kernel
theorem dX5_fail_7 : decode M_X5_fail.2.1 7 = .ok (.putfield 32, 3) := by decide +kernel
theorem dX5_fail_10 : decode M_X5_fail.2.1 10 = .ok (.return_, 1) := by decide +kernel
theorem w_X5_fail {X : ZX} {d n : Nat} {P : ZSto → Prop} {x1 : Int} {x2 : Int} {σ : ZSto} (hn : 73 ≤ n)  (hx1 : R32 x1) (hx2 : R32 x2)
    (h : P (sI (sI σ 49 8 x1) 49 9 x2)) :
    ZkV X M_X5_fail (d + 1) n [.ref (zB X + 49), iV x1, iV x2] σ P := by
  refine zk_of (ls := [some (.ref (zB X + 49)), some (iV x1), some (iV x2)]) pl_RX5 (Nat.le_of_ble_eq_true rfl) rfl (fun k0 => ?_)
  unfold Zn
  refine r_aload_n dX5_fail_0 rfl ?_
  refine r_iload_n dX5_fail_1 rfl ?_
  refine r_putI dX5_fail_2 kf_RX5_29 (zlt hn rfl) sh_49 rfl (Or.inl rfl) ?_
  have k1 := zok_o (i := 8) (x := x1) k0 sh_49 hx1
  refine r_aload_n dX5_fail_5 rfl ?_
  refine r_iload_n dX5_fail_6 rfl ?_
  refine r_putI dX5_fail_7 kf_RX5_32 (zlt hn rfl) sh_49 rfl (Or.inl rfl) ?_
  have k2 := zok_o (i := 9) (x := x2) k1 sh_49 hx2
  exact r_return dX5_fail_10 rfl ⟨k2, rfl, h⟩
/-! StoneRoom$Reader.skipBlanks -/
theorem dX5_skipBlanks_0 : decode M_X5_skipBlanks.2.1 0 = .ok (.aload_n 0, 1) := by decide +kernel
theorem dX5_skipBlanks_1 : decode M_X5_skipBlanks.2.1 1 = .ok (.getfield 23, 3) := by decide +kernel
theorem dX5_skipBlanks_4 : decode M_X5_skipBlanks.2.1 4 = .ok (.aload_n 0, 1) := by decide +kernel
theorem dX5_skipBlanks_5 : decode M_X5_skipBlanks.2.1 5 = .ok (.getfield 53, 3) := by decide +kernel
theorem dX5_skipBlanks_8 : decode M_X5_skipBlanks.2.1 8 = .ok (.getfield 96, 3) := by decide +kernel
theorem dX5_skipBlanks_11 : decode M_X5_skipBlanks.2.1 11 = .ok (.if_icmp .ge 33, 3) := by decide +kernel
theorem dX5_skipBlanks_14 : decode M_X5_skipBlanks.2.1 14 = .ok (.aload_n 0, 1) := by decide +kernel
theorem dX5_skipBlanks_15 : decode M_X5_skipBlanks.2.1 15 = .ok (.getfield 53, 3) := by decide +kernel
theorem dX5_skipBlanks_18 : decode M_X5_skipBlanks.2.1 18 = .ok (.aload_n 0, 1) := by decide +kernel
theorem dX5_skipBlanks_19 : decode M_X5_skipBlanks.2.1 19 = .ok (.getfield 23, 3) := by decide +kernel
theorem dX5_skipBlanks_22 : decode M_X5_skipBlanks.2.1 22 = .ok (.invokevirtual 72, 3) := by decide +kernel
theorem dX5_skipBlanks_25 : decode M_X5_skipBlanks.2.1 25 = .ok (.invokestatic 99, 3) := by decide +kernel
theorem dX5_skipBlanks_28 : decode M_X5_skipBlanks.2.1 28 = .ok (.ifCond .eq 16, 3) := by decide +kernel
theorem dX5_skipBlanks_31 : decode M_X5_skipBlanks.2.1 31 = .ok (.aload_n 0, 1) := by decide +kernel
theorem dX5_skipBlanks_32 : decode M_X5_skipBlanks.2.1 32 = .ok (.dup, 1) := by decide +kernel
theorem dX5_skipBlanks_33 : decode M_X5_skipBlanks.2.1 33 = .ok (.getfield 23, 3) := by decide +kernel
theorem dX5_skipBlanks_36 : decode M_X5_skipBlanks.2.1 36 = .ok (.iconst 1, 1) := by decide +kernel
theorem dX5_skipBlanks_37 : decode M_X5_skipBlanks.2.1 37 = .ok (.iadd, 1) := by decide +kernel
theorem dX5_skipBlanks_38 : decode M_X5_skipBlanks.2.1 38 = .ok (.putfield 23, 3) := by decide +kernel
theorem dX5_skipBlanks_41 : decode M_X5_skipBlanks.2.1 41 = .ok (.goto (-41), 3) := by decide +kernel
theorem dX5_skipBlanks_44 : decode M_X5_skipBlanks.2.1 44 = .ok (.return_, 1) := by decide +kernel
def L_X5_skipBlanks_0 (X : ZX) (d n : Nat) (P : Option Value → ZSto → Prop)  (σ : ZSto) : Prop := ZOk n σ → Zn X M_X5_skipBlanks d n P 0 [some (.ref (zB X + 49))] [] σ
theorem w_X5_skipBlanks {X : ZX} {d n : Nat} {P : ZSto → Prop}  {σ : ZSto} (hn : 73 ≤ n)  
    (h : L_X5_skipBlanks_0 X d n (zpV P) σ) :
    ZkV X M_X5_skipBlanks (d + 1) n [.ref (zB X + 49)] σ P := by
  refine zk_of (ls := [some (.ref (zB X + 49))]) pl_RX5 (Nat.le_of_ble_eq_true rfl) rfl (fun k0 => ?_)
  unfold Zn
  exact r_mask [true] rfl (h k0)
theorem b_X5_skipBlanks_0 {X : ZX} {d n : Nat} {P : ZSto → Prop}  {σ : ZSto} (hn : 73 ≤ n) 
    (h : (gI σ 29 1 ≤ gI σ 49 6 → P σ) ∧ (¬ (gI σ 29 1 ≤ gI σ 49 6) → ZkI X M_X1_byteAt d n [.ref (zB X + 29), iV (gI σ 49 6)] σ (fun v5 σ6 => ZkZ X M_X5_isBlank d n [iV v5] σ6 (fun v10 σ11 => (v10 = 0 → P σ11) ∧ (¬ (v10 = 0) → R32 ((gI σ11 49 6) + 1) ∧ L_X5_skipBlanks_0 X d n (zpV P) (sI σ11 49 6 ((gI σ11 49 6) + 1))))))) :
    L_X5_skipBlanks_0 X d n (zpV P) σ := by
  intro  k0
  unfold Zn
  refine r_aload_n dX5_skipBlanks_0 rfl ?_
  refine r_getI dX5_skipBlanks_1 kf_RX5_23 (zlt hn rfl) sh_49 (Or.inl rfl) rfl ?_
  refine r_aload_n dX5_skipBlanks_4 rfl ?_
  refine r_getP (a := 29) dX5_skipBlanks_5 kf_RX5_53 (zlt hn rfl) sh_49 rfl (k0.1 _ _ _ (zlt hn rfl) p_49_0) ?_
  refine r_getI dX5_skipBlanks_8 kf_RX5_96 (zlt hn rfl) sh_29 (Or.inl rfl) rfl ?_
  refine r_icmp_ge (t := 44) dX5_skipBlanks_11 rfl (k0.2.1 _ _) (k0.2.1 _ _) (fun c1 => ?_) (fun c2 => ?_)
  · have h3 := h.1 c1
    exact r_return dX5_skipBlanks_44 rfl ⟨k0, rfl, h3⟩
  · have h4 := h.2 c2
    refine r_aload_n dX5_skipBlanks_14 rfl ?_
    refine r_getP (a := 29) dX5_skipBlanks_15 kf_RX5_53 (zlt hn rfl) sh_49 rfl (k0.1 _ _ _ (zlt hn rfl) p_49_0) ?_
    refine r_aload_n dX5_skipBlanks_18 rfl ?_
    refine r_getI dX5_skipBlanks_19 kf_RX5_23 (zlt hn rfl) sh_49 (Or.inl rfl) rfl ?_
    refine n_callV (N := M_X1_byteAt) (As := [iV (gI σ 49 6)]) (st := []) dX5_skipBlanks_22 mk_X1_byteAt km_RX5_72 kd_X1_byteAt rfl (zlt hn rfl) sh_29 (q := (RX1, TX1, 2)) rfl rfl (zFits_rm d n n n (Nat.le_refl n)) (Nat.le_of_ble_eq_true rfl) rfl k0 h4 ?_
    rintro _ σ6 k7 ⟨v5, rfl, h8, h9⟩
    change Zm _ _ _ _ _ _ 25 _ [iV v5] _
    refine n_callS (N := M_X5_isBlank) (As := [iV v5]) (st := []) dX5_skipBlanks_25 mk_X5_isBlank km_RX5_99 kd_X5_isBlank rfl (zFits_rm d n n n (Nat.le_refl n)) (Nat.le_of_ble_eq_true rfl) rfl k7 h9 ?_
    rintro _ σ11 k12 ⟨v10, rfl, h13, h14⟩
    change Zm _ _ _ _ _ _ 28 _ [iV v10] _
    refine r_if_eq (t := 44) dX5_skipBlanks_28 rfl (r32_z h13)  (fun c15 => ?_) (fun c16 => ?_)
    · have h17 := h14.1 c15
      exact r_return dX5_skipBlanks_44 rfl ⟨k12, rfl, h17⟩
    · have h18 := h14.2 c16
      refine r_aload_n dX5_skipBlanks_31 rfl ?_
      refine r_dup dX5_skipBlanks_32 rfl ?_
      refine r_getI dX5_skipBlanks_33 kf_RX5_23 (zlt hn rfl) sh_49 (Or.inl rfl) rfl ?_
      refine r_iconst dX5_skipBlanks_36 ?_
      refine r_iadd dX5_skipBlanks_37 ?_
      obtain ⟨h19, h20⟩ := h18
      refine r_putI dX5_skipBlanks_38 kf_RX5_23 (zlt hn rfl) sh_49 rfl (Or.inl rfl) ?_
      have k21 := zok_o (i := 6) (x := (gI σ11 49 6) + 1) k12 sh_49 h19
      refine r_goto (t := 0) dX5_skipBlanks_41 rfl ?_
      exact r_mask [true] rfl (h20 k21)
/-! StoneRoom$Reader.isBlank -/
theorem dX5_isBlank_0 : decode M_X5_isBlank.2.1 0 = .ok (.iload_n 0, 1) := by decide +kernel
theorem dX5_isBlank_1 : decode M_X5_isBlank.2.1 1 = .ok (.bipush 32, 2) := by decide +kernel
theorem dX5_isBlank_3 : decode M_X5_isBlank.2.1 3 = .ok (.if_icmp .eq 15, 3) := by decide +kernel
theorem dX5_isBlank_6 : decode M_X5_isBlank.2.1 6 = .ok (.iload_n 0, 1) := by decide +kernel
theorem dX5_isBlank_7 : decode M_X5_isBlank.2.1 7 = .ok (.bipush 10, 2) := by decide +kernel
theorem dX5_isBlank_9 : decode M_X5_isBlank.2.1 9 = .ok (.if_icmp .eq 9, 3) := by decide +kernel
theorem dX5_isBlank_12 : decode M_X5_isBlank.2.1 12 = .ok (.iload_n 0, 1) := by decide +kernel
theorem dX5_isBlank_13 : decode M_X5_isBlank.2.1 13 = .ok (.bipush 13, 2) := by decide +kernel
theorem dX5_isBlank_15 : decode M_X5_isBlank.2.1 15 = .ok (.if_icmp .ne 7, 3) := by decide +kernel
theorem dX5_isBlank_18 : decode M_X5_isBlank.2.1 18 = .ok (.iconst 1, 1) := by decide +kernel
theorem dX5_isBlank_19 : decode M_X5_isBlank.2.1 19 = .ok (.goto 4, 3) := by decide +kernel
theorem dX5_isBlank_22 : decode M_X5_isBlank.2.1 22 = .ok (.iconst 0, 1) := by decide +kernel
theorem dX5_isBlank_23 : decode M_X5_isBlank.2.1 23 = .ok (.ireturn, 1) := by decide +kernel
theorem w_X5_isBlank {X : ZX} {d n : Nat} {P : Int → ZSto → Prop} {x0 : Int} {σ : ZSto} (hn : 73 ≤ n)  (hx0 : R32 x0)
    (h : (x0 = 32 → P 1 σ) ∧ (¬ (x0 = 32) → (x0 = 10 → P 1 σ) ∧ (¬ (x0 = 10) → (¬ x0 = 13 → P 0 σ) ∧ (x0 = 13 → P 1 σ)))) :
    ZkZ X M_X5_isBlank (d + 1) n [iV x0] σ P := by
  refine zk_of (ls := [some (iV x0)]) pl_RX5 (Nat.le_of_ble_eq_true rfl) rfl (fun k0 => ?_)
  unfold Zn
  refine r_iload_n dX5_isBlank_0 rfl ?_
  refine r_bipush dX5_isBlank_1 rfl ?_
  refine r_icmp_eq (t := 18) dX5_isBlank_3 rfl hx0 (r32c rfl) (fun c1 => ?_) (fun c2 => ?_)
  · have h3 := h.1 c1
    refine r_iconst dX5_isBlank_18 ?_
    refine r_goto (t := 23) dX5_isBlank_19 rfl ?_
    exact r_zreturn dX5_isBlank_23 rfl (Or.inr rfl) ⟨k0, _, rfl, (Or.inr rfl), h3⟩
  · have h4 := h.2 c2
    refine r_iload_n dX5_isBlank_6 rfl ?_
    refine r_bipush dX5_isBlank_7 rfl ?_
    refine r_icmp_eq (t := 18) dX5_isBlank_9 rfl hx0 (r32c rfl) (fun c5 => ?_) (fun c6 => ?_)
    · have h7 := h4.1 c5
      refine r_iconst dX5_isBlank_18 ?_
      refine r_goto (t := 23) dX5_isBlank_19 rfl ?_
      exact r_zreturn dX5_isBlank_23 rfl (Or.inr rfl) ⟨k0, _, rfl, (Or.inr rfl), h7⟩
    · have h8 := h4.2 c6
      refine r_iload_n dX5_isBlank_12 rfl ?_
      refine r_bipush dX5_isBlank_13 rfl ?_
      refine r_icmp_ne (t := 22) dX5_isBlank_15 rfl hx0 (r32c rfl) (fun c9 => ?_) (fun c10 => ?_)
      · have h11 := h8.1 c9
        refine r_iconst dX5_isBlank_22 ?_
        exact r_zreturn dX5_isBlank_23 rfl (Or.inl rfl) ⟨k0, _, rfl, (Or.inl rfl), h11⟩
      · have h12 := h8.2 c10
        refine r_iconst dX5_isBlank_18 ?_
        refine r_goto (t := 23) dX5_isBlank_19 rfl ?_
        exact r_zreturn dX5_isBlank_23 rfl (Or.inr rfl) ⟨k0, _, rfl, (Or.inr rfl), h12⟩
/-! StoneRoom$Reader.isGreat -/
theorem dX5_isGreat_0 : decode M_X5_isGreat.2.1 0 = .ok (.iload_n 0, 1) := by decide +kernel
theorem dX5_isGreat_1 : decode M_X5_isGreat.2.1 1 = .ok (.bipush 65, 2) := by decide +kernel
theorem dX5_isGreat_3 : decode M_X5_isGreat.2.1 3 = .ok (.if_icmp .lt 13, 3) := by decide +kernel
theorem dX5_isGreat_6 : decode M_X5_isGreat.2.1 6 = .ok (.iload_n 0, 1) := by decide +kernel
theorem dX5_isGreat_7 : decode M_X5_isGreat.2.1 7 = .ok (.bipush 90, 2) := by decide +kernel
theorem dX5_isGreat_9 : decode M_X5_isGreat.2.1 9 = .ok (.if_icmp .gt 7, 3) := by decide +kernel
theorem dX5_isGreat_12 : decode M_X5_isGreat.2.1 12 = .ok (.iconst 1, 1) := by decide +kernel
theorem dX5_isGreat_13 : decode M_X5_isGreat.2.1 13 = .ok (.goto 4, 3) := by decide +kernel
theorem dX5_isGreat_16 : decode M_X5_isGreat.2.1 16 = .ok (.iconst 0, 1) := by decide +kernel
theorem dX5_isGreat_17 : decode M_X5_isGreat.2.1 17 = .ok (.ireturn, 1) := by decide +kernel
theorem w_X5_isGreat {X : ZX} {d n : Nat} {P : Int → ZSto → Prop} {x0 : Int} {σ : ZSto} (hn : 73 ≤ n)  (hx0 : R32 x0)
    (h : (x0 < 65 → P 0 σ) ∧ (¬ (x0 < 65) → (90 < x0 → P 0 σ) ∧ (¬ (90 < x0) → P 1 σ))) :
    ZkZ X M_X5_isGreat (d + 1) n [iV x0] σ P := by
  refine zk_of (ls := [some (iV x0)]) pl_RX5 (Nat.le_of_ble_eq_true rfl) rfl (fun k0 => ?_)
  unfold Zn
  refine r_iload_n dX5_isGreat_0 rfl ?_
  refine r_bipush dX5_isGreat_1 rfl ?_
  refine r_icmp_lt (t := 16) dX5_isGreat_3 rfl hx0 (r32c rfl) (fun c1 => ?_) (fun c2 => ?_)
  · have h3 := h.1 c1
    refine r_iconst dX5_isGreat_16 ?_
    exact r_zreturn dX5_isGreat_17 rfl (Or.inl rfl) ⟨k0, _, rfl, (Or.inl rfl), h3⟩
  · have h4 := h.2 c2
    refine r_iload_n dX5_isGreat_6 rfl ?_
    refine r_bipush dX5_isGreat_7 rfl ?_
    refine r_icmp_gt (t := 16) dX5_isGreat_9 rfl hx0 (r32c rfl) (fun c5 => ?_) (fun c6 => ?_)
    · have h7 := h4.1 c5
      refine r_iconst dX5_isGreat_16 ?_
      exact r_zreturn dX5_isGreat_17 rfl (Or.inl rfl) ⟨k0, _, rfl, (Or.inl rfl), h7⟩
    · have h8 := h4.2 c6
      refine r_iconst dX5_isGreat_12 ?_
      refine r_goto (t := 17) dX5_isGreat_13 rfl ?_
      exact r_zreturn dX5_isGreat_17 rfl (Or.inr rfl) ⟨k0, _, rfl, (Or.inr rfl), h8⟩
/-! StoneRoom$Reader.openTree -/
theorem dX5_openTree_0 : decode M_X5_openTree.2.1 0 = .ok (.aload_n 0, 1) := by decide +kernel
theorem dX5_openTree_1 : decode M_X5_openTree.2.1 1 = .ok (.getfield 35, 3) := by decide +kernel
theorem dX5_openTree_4 : decode M_X5_openTree.2.1 4 = .ok (.ifCond .lt 38, 3) := by decide +kernel
theorem dX5_openTree_7 : decode M_X5_openTree.2.1 7 = .ok (.aload_n 0, 1) := by decide +kernel
theorem dX5_openTree_8 : decode M_X5_openTree.2.1 8 = .ok (.getfield 35, 3) := by decide +kernel
theorem dX5_openTree_11 : decode M_X5_openTree.2.1 11 = .ok (.aload_n 0, 1) := by decide +kernel
theorem dX5_openTree_12 : decode M_X5_openTree.2.1 12 = .ok (.getfield 11, 3) := by decide +kernel
theorem dX5_openTree_15 : decode M_X5_openTree.2.1 15 = .ok (.arraylength, 1) := by decide +kernel
theorem dX5_openTree_16 : decode M_X5_openTree.2.1 16 = .ok (.if_icmp .ge 26, 3) := by decide +kernel
theorem dX5_openTree_19 : decode M_X5_openTree.2.1 19 = .ok (.aload_n 0, 1) := by decide +kernel
theorem dX5_openTree_20 : decode M_X5_openTree.2.1 20 = .ok (.getfield 11, 3) := by decide +kernel
theorem dX5_openTree_23 : decode M_X5_openTree.2.1 23 = .ok (.aload_n 0, 1) := by decide +kernel
theorem dX5_openTree_24 : decode M_X5_openTree.2.1 24 = .ok (.getfield 35, 3) := by decide +kernel
theorem dX5_openTree_27 : decode M_X5_openTree.2.1 27 = .ok (.aload_n 0, 1) := by decide +kernel
theorem dX5_openTree_28 : decode M_X5_openTree.2.1 28 = .ok (.getfield 38, 3) := by decide +kernel
theorem dX5_openTree_31 : decode M_X5_openTree.2.1 31 = .ok (.iastore, 1) := by decide +kernel
theorem dX5_openTree_32 : decode M_X5_openTree.2.1 32 = .ok (.aload_n 0, 1) := by decide +kernel
theorem dX5_openTree_33 : decode M_X5_openTree.2.1 33 = .ok (.dup, 1) := by decide +kernel
theorem dX5_openTree_34 : decode M_X5_openTree.2.1 34 = .ok (.getfield 35, 3) := by decide +kernel
theorem dX5_openTree_37 : decode M_X5_openTree.2.1 37 = .ok (.iconst 1, 1) := by decide +kernel
theorem dX5_openTree_38 : decode M_X5_openTree.2.1 38 = .ok (.iadd, 1) := by decide +kernel
theorem dX5_openTree_39 : decode M_X5_openTree.2.1 39 = .ok (.putfield 35, 3) := by decide +kernel
theorem dX5_openTree_42 : decode M_X5_openTree.2.1 42 = .ok (.aload_n 0, 1) := by decide +kernel
theorem dX5_openTree_43 : decode M_X5_openTree.2.1 43 = .ok (.dup, 1) := by decide +kernel
theorem dX5_openTree_44 : decode M_X5_openTree.2.1 44 = .ok (.getfield 23, 3) := by decide +kernel
theorem dX5_openTree_47 : decode M_X5_openTree.2.1 47 = .ok (.iconst 1, 1) := by decide +kernel
theorem dX5_openTree_48 : decode M_X5_openTree.2.1 48 = .ok (.iadd, 1) := by decide +kernel
theorem dX5_openTree_49 : decode M_X5_openTree.2.1 49 = .ok (.putfield 23, 3) := by decide +kernel
theorem dX5_openTree_52 : decode M_X5_openTree.2.1 52 = .ok (.aload_n 0, 1) := by decide +kernel
theorem dX5_openTree_53 : decode M_X5_openTree.2.1 53 = .ok (.iconst 1, 1) := by decide +kernel
theorem dX5_openTree_54 : decode M_X5_openTree.2.1 54 = .ok (.putfield 26, 3) := by decide +kernel
theorem dX5_openTree_57 : decode M_X5_openTree.2.1 57 = .ok (.return_, 1) := by decide +kernel
theorem w_X5_openTree {X : ZX} {d n : Nat} {P : ZSto → Prop}  {σ : ZSto} (hn : 73 ≤ n)  
    (h : (gI σ 49 10 < 0 → R32 ((gI σ 49 6) + 1) ∧ P (sI (sI σ 49 6 ((gI σ 49 6) + 1)) 49 7 1)) ∧ (¬ (gI σ 49 10 < 0) → (252 ≤ gI σ 49 10 → R32 ((gI σ 49 6) + 1) ∧ P (sI (sI σ 49 6 ((gI σ 49 6) + 1)) 49 7 1)) ∧ (¬ (252 ≤ gI σ 49 10) → (0 ≤ gI σ 49 10 ∧ gI σ 49 10 < 252) ∧ R32 ((gI σ 49 10) + 1) ∧ R32 ((gI σ 49 6) + 1) ∧ P (sI (sI (sI (sI σ 50 ((gI σ 49 10).toNat) (gI σ 49 11)) 49 10 ((gI σ 49 10) + 1)) 49 6 ((gI σ 49 6) + 1)) 49 7 1)))) :
    ZkV X M_X5_openTree (d + 1) n [.ref (zB X + 49)] σ P := by
  refine zk_of (ls := [some (.ref (zB X + 49))]) pl_RX5 (Nat.le_of_ble_eq_true rfl) rfl (fun k0 => ?_)
  unfold Zn
  refine r_aload_n dX5_openTree_0 rfl ?_
  refine r_getI dX5_openTree_1 kf_RX5_35 (zlt hn rfl) sh_49 (Or.inl rfl) rfl ?_
  refine r_if_lt (t := 42) dX5_openTree_4 rfl (k0.2.1 _ _)  (fun c1 => ?_) (fun c2 => ?_)
  · have h3 := h.1 c1
    refine r_aload_n dX5_openTree_42 rfl ?_
    refine r_dup dX5_openTree_43 rfl ?_
    refine r_getI dX5_openTree_44 kf_RX5_23 (zlt hn rfl) sh_49 (Or.inl rfl) rfl ?_
    refine r_iconst dX5_openTree_47 ?_
    refine r_iadd dX5_openTree_48 ?_
    obtain ⟨h4, h5⟩ := h3
    refine r_putI dX5_openTree_49 kf_RX5_23 (zlt hn rfl) sh_49 rfl (Or.inl rfl) ?_
    have k6 := zok_o (i := 6) (x := (gI σ 49 6) + 1) k0 sh_49 h4
    refine r_aload_n dX5_openTree_52 rfl ?_
    refine r_iconst dX5_openTree_53 ?_
    refine r_putI dX5_openTree_54 kf_RX5_26 (zlt hn rfl) sh_49 rfl (Or.inl rfl) ?_
    have k7 := zok_o (i := 7) (x := 1) k6 sh_49 (r32c rfl)
    exact r_return dX5_openTree_57 rfl ⟨k7, rfl, h5⟩
  · have h8 := h.2 c2
    refine r_aload_n dX5_openTree_7 rfl ?_
    refine r_getI dX5_openTree_8 kf_RX5_35 (zlt hn rfl) sh_49 (Or.inl rfl) rfl ?_
    refine r_aload_n dX5_openTree_11 rfl ?_
    refine r_getP (a := 50) dX5_openTree_12 kf_RX5_11 (zlt hn rfl) sh_49 rfl (k0.1 _ _ _ (zlt hn rfl) p_49_2) ?_
    refine r_alen dX5_openTree_15 (zlt hn rfl) sh_50 (Or.inl rfl) ?_
    refine r_icmp_ge (t := 42) dX5_openTree_16 rfl (k0.2.1 _ _) (r32c rfl) (fun c9 => ?_) (fun c10 => ?_)
    · have h11 := h8.1 c9
      refine r_aload_n dX5_openTree_42 rfl ?_
      refine r_dup dX5_openTree_43 rfl ?_
      refine r_getI dX5_openTree_44 kf_RX5_23 (zlt hn rfl) sh_49 (Or.inl rfl) rfl ?_
      refine r_iconst dX5_openTree_47 ?_
      refine r_iadd dX5_openTree_48 ?_
      obtain ⟨h12, h13⟩ := h11
      refine r_putI dX5_openTree_49 kf_RX5_23 (zlt hn rfl) sh_49 rfl (Or.inl rfl) ?_
      have k14 := zok_o (i := 6) (x := (gI σ 49 6) + 1) k0 sh_49 h12
      refine r_aload_n dX5_openTree_52 rfl ?_
      refine r_iconst dX5_openTree_53 ?_
      refine r_putI dX5_openTree_54 kf_RX5_26 (zlt hn rfl) sh_49 rfl (Or.inl rfl) ?_
      have k15 := zok_o (i := 7) (x := 1) k14 sh_49 (r32c rfl)
      exact r_return dX5_openTree_57 rfl ⟨k15, rfl, h13⟩
    · have h16 := h8.2 c10
      refine r_aload_n dX5_openTree_19 rfl ?_
      refine r_getP (a := 50) dX5_openTree_20 kf_RX5_11 (zlt hn rfl) sh_49 rfl (k0.1 _ _ _ (zlt hn rfl) p_49_2) ?_
      refine r_aload_n dX5_openTree_23 rfl ?_
      refine r_getI dX5_openTree_24 kf_RX5_35 (zlt hn rfl) sh_49 (Or.inl rfl) rfl ?_
      refine r_aload_n dX5_openTree_27 rfl ?_
      refine r_getI dX5_openTree_28 kf_RX5_38 (zlt hn rfl) sh_49 (Or.inl rfl) rfl ?_
      obtain ⟨h17, h18⟩ := h16
      refine r_iastore dX5_openTree_31 (zlt hn rfl) sh_50 h17.1 h17.2 ?_
      have k19 := zok_i (i := (gI σ 49 10).toNat) (x := gI σ 49 11) k0 sh_50 (k0.2.1 _ _)
      refine r_aload_n dX5_openTree_32 rfl ?_
      refine r_dup dX5_openTree_33 rfl ?_
      refine r_getI dX5_openTree_34 kf_RX5_35 (zlt hn rfl) sh_49 (Or.inl rfl) (gI_c (by decide)) ?_
      refine r_iconst dX5_openTree_37 ?_
      refine r_iadd dX5_openTree_38 ?_
      obtain ⟨h20, h21⟩ := h18
      refine r_putI dX5_openTree_39 kf_RX5_35 (zlt hn rfl) sh_49 rfl (Or.inl rfl) ?_
      have k22 := zok_o (i := 10) (x := (gI σ 49 10) + 1) k19 sh_49 h20
      refine r_aload_n dX5_openTree_42 rfl ?_
      refine r_dup dX5_openTree_43 rfl ?_
      refine r_getI dX5_openTree_44 kf_RX5_23 (zlt hn rfl) sh_49 (Or.inl rfl) ((gI_f (by decide)).trans (gI_c (by decide))) ?_
      refine r_iconst dX5_openTree_47 ?_
      refine r_iadd dX5_openTree_48 ?_
      obtain ⟨h23, h24⟩ := h21
      refine r_putI dX5_openTree_49 kf_RX5_23 (zlt hn rfl) sh_49 rfl (Or.inl rfl) ?_
      have k25 := zok_o (i := 6) (x := (gI σ 49 6) + 1) k22 sh_49 h23
      refine r_aload_n dX5_openTree_52 rfl ?_
      refine r_iconst dX5_openTree_53 ?_
      refine r_putI dX5_openTree_54 kf_RX5_26 (zlt hn rfl) sh_49 rfl (Or.inl rfl) ?_
      have k26 := zok_o (i := 7) (x := 1) k25 sh_49 (r32c rfl)
      exact r_return dX5_openTree_57 rfl ⟨k26, rfl, h24⟩
/-! StoneRoom$Reader.closeTree -/
theorem dX5_closeTree_0 : decode M_X5_closeTree.2.1 0 = .ok (.aload_n 0, 1) := by decide +kernel
theorem dX5_closeTree_1 : decode M_X5_closeTree.2.1 1 = .ok (.getfield 35, 3) := by decide +kernel
theorem dX5_closeTree_4 : decode M_X5_closeTree.2.1 4 = .ok (.ifCond .le 38, 3) := by decide +kernel
theorem dX5_closeTree_7 : decode M_X5_closeTree.2.1 7 = .ok (.aload_n 0, 1) := by decide +kernel
theorem dX5_closeTree_8 : decode M_X5_closeTree.2.1 8 = .ok (.getfield 35, 3) := by decide +kernel
theorem dX5_closeTree_11 : decode M_X5_closeTree.2.1 11 = .ok (.aload_n 0, 1) := by decide +kernel
theorem dX5_closeTree_12 : decode M_X5_closeTree.2.1 12 = .ok (.getfield 11, 3) := by decide +kernel
theorem dX5_closeTree_15 : decode M_X5_closeTree.2.1 15 = .ok (.arraylength, 1) := by decide +kernel
theorem dX5_closeTree_16 : decode M_X5_closeTree.2.1 16 = .ok (.if_icmp .gt 26, 3) := by decide +kernel
theorem dX5_closeTree_19 : decode M_X5_closeTree.2.1 19 = .ok (.aload_n 0, 1) := by decide +kernel
theorem dX5_closeTree_20 : decode M_X5_closeTree.2.1 20 = .ok (.dup, 1) := by decide +kernel
theorem dX5_closeTree_21 : decode M_X5_closeTree.2.1 21 = .ok (.getfield 35, 3) := by decide +kernel
theorem dX5_closeTree_24 : decode M_X5_closeTree.2.1 24 = .ok (.iconst 1, 1) := by decide +kernel
theorem dX5_closeTree_25 : decode M_X5_closeTree.2.1 25 = .ok (.isub, 1) := by decide +kernel
theorem dX5_closeTree_26 : decode M_X5_closeTree.2.1 26 = .ok (.putfield 35, 3) := by decide +kernel
theorem dX5_closeTree_29 : decode M_X5_closeTree.2.1 29 = .ok (.aload_n 0, 1) := by decide +kernel
theorem dX5_closeTree_30 : decode M_X5_closeTree.2.1 30 = .ok (.aload_n 0, 1) := by decide +kernel
theorem dX5_closeTree_31 : decode M_X5_closeTree.2.1 31 = .ok (.getfield 11, 3) := by decide +kernel
theorem dX5_closeTree_34 : decode M_X5_closeTree.2.1 34 = .ok (.aload_n 0, 1) := by decide +kernel
theorem dX5_closeTree_35 : decode M_X5_closeTree.2.1 35 = .ok (.getfield 35, 3) := by decide +kernel
theorem dX5_closeTree_38 : decode M_X5_closeTree.2.1 38 = .ok (.iaload, 1) := by decide +kernel
theorem dX5_closeTree_39 : decode M_X5_closeTree.2.1 39 = .ok (.putfield 38, 3) := by decide +kernel
theorem dX5_closeTree_42 : decode M_X5_closeTree.2.1 42 = .ok (.aload_n 0, 1) := by decide +kernel
theorem dX5_closeTree_43 : decode M_X5_closeTree.2.1 43 = .ok (.dup, 1) := by decide +kernel
theorem dX5_closeTree_44 : decode M_X5_closeTree.2.1 44 = .ok (.getfield 23, 3) := by decide +kernel
theorem dX5_closeTree_47 : decode M_X5_closeTree.2.1 47 = .ok (.iconst 1, 1) := by decide +kernel
theorem dX5_closeTree_48 : decode M_X5_closeTree.2.1 48 = .ok (.iadd, 1) := by decide +kernel
theorem dX5_closeTree_49 : decode M_X5_closeTree.2.1 49 = .ok (.putfield 23, 3) := by decide +kernel
theorem dX5_closeTree_52 : decode M_X5_closeTree.2.1 52 = .ok (.aload_n 0, 1) := by decide +kernel
theorem dX5_closeTree_53 : decode M_X5_closeTree.2.1 53 = .ok (.aload_n 0, 1) := by decide +kernel
theorem dX5_closeTree_54 : decode M_X5_closeTree.2.1 54 = .ok (.getfield 35, 3) := by decide +kernel
theorem dX5_closeTree_57 : decode M_X5_closeTree.2.1 57 = .ok (.ifCond .ne 7, 3) := by decide +kernel
theorem dX5_closeTree_60 : decode M_X5_closeTree.2.1 60 = .ok (.iconst 4, 1) := by decide +kernel
theorem dX5_closeTree_61 : decode M_X5_closeTree.2.1 61 = .ok (.goto 4, 3) := by decide +kernel
theorem dX5_closeTree_64 : decode M_X5_closeTree.2.1 64 = .ok (.iconst 3, 1) := by decide +kernel
theorem dX5_closeTree_65 : decode M_X5_closeTree.2.1 65 = .ok (.putfield 26, 3) := by decide +kernel
theorem dX5_closeTree_68 : decode M_X5_closeTree.2.1 68 = .ok (.return_, 1) := by decide +kernel
theorem w_X5_closeTree {X : ZX} {d n : Nat} {P : ZSto → Prop}  {σ : ZSto} (hn : 73 ≤ n)  
    (h : (gI σ 49 10 ≤ 0 → R32 ((gI σ 49 6) + 1) ∧ (¬ gI σ 49 10 = 0 → P (sI (sI σ 49 6 ((gI σ 49 6) + 1)) 49 7 3)) ∧ (gI σ 49 10 = 0 → P (sI (sI σ 49 6 ((gI σ 49 6) + 1)) 49 7 4))) ∧ (¬ (gI σ 49 10 ≤ 0) → (252 < gI σ 49 10 → R32 ((gI σ 49 6) + 1) ∧ (¬ gI σ 49 10 = 0 → P (sI (sI σ 49 6 ((gI σ 49 6) + 1)) 49 7 3)) ∧ (gI σ 49 10 = 0 → P (sI (sI σ 49 6 ((gI σ 49 6) + 1)) 49 7 4))) ∧ (¬ (252 < gI σ 49 10) → R32 ((gI σ 49 10) - 1) ∧ (0 ≤ (gI σ 49 10) - 1 ∧ (gI σ 49 10) - 1 < 252) ∧ R32 ((gI σ 49 6) + 1) ∧ (¬ (gI σ 49 10) - 1 = 0 → P (sI (sI (sI (sI σ 49 10 ((gI σ 49 10) - 1)) 49 11 (gI σ 50 (((gI σ 49 10) - 1).toNat))) 49 6 ((gI σ 49 6) + 1)) 49 7 3)) ∧ ((gI σ 49 10) - 1 = 0 → P (sI (sI (sI (sI σ 49 10 ((gI σ 49 10) - 1)) 49 11 (gI σ 50 (((gI σ 49 10) - 1).toNat))) 49 6 ((gI σ 49 6) + 1)) 49 7 4))))) :
    ZkV X M_X5_closeTree (d + 1) n [.ref (zB X + 49)] σ P := by
  refine zk_of (ls := [some (.ref (zB X + 49))]) pl_RX5 (Nat.le_of_ble_eq_true rfl) rfl (fun k0 => ?_)
  unfold Zn
  refine r_aload_n dX5_closeTree_0 rfl ?_
  refine r_getI dX5_closeTree_1 kf_RX5_35 (zlt hn rfl) sh_49 (Or.inl rfl) rfl ?_
  refine r_if_le (t := 42) dX5_closeTree_4 rfl (k0.2.1 _ _)  (fun c1 => ?_) (fun c2 => ?_)
  · have h3 := h.1 c1
    refine r_aload_n dX5_closeTree_42 rfl ?_
    refine r_dup dX5_closeTree_43 rfl ?_
    refine r_getI dX5_closeTree_44 kf_RX5_23 (zlt hn rfl) sh_49 (Or.inl rfl) rfl ?_
    refine r_iconst dX5_closeTree_47 ?_
    refine r_iadd dX5_closeTree_48 ?_
    obtain ⟨h4, h5⟩ := h3
    refine r_putI dX5_closeTree_49 kf_RX5_23 (zlt hn rfl) sh_49 rfl (Or.inl rfl) ?_
    have k6 := zok_o (i := 6) (x := (gI σ 49 6) + 1) k0 sh_49 h4
    refine r_aload_n dX5_closeTree_52 rfl ?_
    refine r_aload_n dX5_closeTree_53 rfl ?_
    refine r_getI dX5_closeTree_54 kf_RX5_35 (zlt hn rfl) sh_49 (Or.inl rfl) (gI_f (by decide)) ?_
    refine r_if_ne (t := 64) dX5_closeTree_57 rfl (k0.2.1 _ _)  (fun c7 => ?_) (fun c8 => ?_)
    · have h9 := h5.1 c7
      refine r_iconst dX5_closeTree_64 ?_
      refine r_putI dX5_closeTree_65 kf_RX5_26 (zlt hn rfl) sh_49 rfl (Or.inl rfl) ?_
      have k10 := zok_o (i := 7) (x := 3) k6 sh_49 (r32c rfl)
      exact r_return dX5_closeTree_68 rfl ⟨k10, rfl, h9⟩
    · have h11 := h5.2 c8
      refine r_iconst dX5_closeTree_60 ?_
      refine r_goto (t := 65) dX5_closeTree_61 rfl ?_
      refine r_putI dX5_closeTree_65 kf_RX5_26 (zlt hn rfl) sh_49 rfl (Or.inl rfl) ?_
      have k12 := zok_o (i := 7) (x := 4) k6 sh_49 (r32c rfl)
      exact r_return dX5_closeTree_68 rfl ⟨k12, rfl, h11⟩
  · have h13 := h.2 c2
    refine r_aload_n dX5_closeTree_7 rfl ?_
    refine r_getI dX5_closeTree_8 kf_RX5_35 (zlt hn rfl) sh_49 (Or.inl rfl) rfl ?_
    refine r_aload_n dX5_closeTree_11 rfl ?_
    refine r_getP (a := 50) dX5_closeTree_12 kf_RX5_11 (zlt hn rfl) sh_49 rfl (k0.1 _ _ _ (zlt hn rfl) p_49_2) ?_
    refine r_alen dX5_closeTree_15 (zlt hn rfl) sh_50 (Or.inl rfl) ?_
    refine r_icmp_gt (t := 42) dX5_closeTree_16 rfl (k0.2.1 _ _) (r32c rfl) (fun c14 => ?_) (fun c15 => ?_)
    · have h16 := h13.1 c14
      refine r_aload_n dX5_closeTree_42 rfl ?_
      refine r_dup dX5_closeTree_43 rfl ?_
      refine r_getI dX5_closeTree_44 kf_RX5_23 (zlt hn rfl) sh_49 (Or.inl rfl) rfl ?_
      refine r_iconst dX5_closeTree_47 ?_
      refine r_iadd dX5_closeTree_48 ?_
      obtain ⟨h17, h18⟩ := h16
      refine r_putI dX5_closeTree_49 kf_RX5_23 (zlt hn rfl) sh_49 rfl (Or.inl rfl) ?_
      have k19 := zok_o (i := 6) (x := (gI σ 49 6) + 1) k0 sh_49 h17
      refine r_aload_n dX5_closeTree_52 rfl ?_
      refine r_aload_n dX5_closeTree_53 rfl ?_
      refine r_getI dX5_closeTree_54 kf_RX5_35 (zlt hn rfl) sh_49 (Or.inl rfl) (gI_f (by decide)) ?_
      refine r_if_ne (t := 64) dX5_closeTree_57 rfl (k0.2.1 _ _)  (fun c20 => ?_) (fun c21 => ?_)
      · have h22 := h18.1 c20
        refine r_iconst dX5_closeTree_64 ?_
        refine r_putI dX5_closeTree_65 kf_RX5_26 (zlt hn rfl) sh_49 rfl (Or.inl rfl) ?_
        have k23 := zok_o (i := 7) (x := 3) k19 sh_49 (r32c rfl)
        exact r_return dX5_closeTree_68 rfl ⟨k23, rfl, h22⟩
      · have h24 := h18.2 c21
        refine r_iconst dX5_closeTree_60 ?_
        refine r_goto (t := 65) dX5_closeTree_61 rfl ?_
        refine r_putI dX5_closeTree_65 kf_RX5_26 (zlt hn rfl) sh_49 rfl (Or.inl rfl) ?_
        have k25 := zok_o (i := 7) (x := 4) k19 sh_49 (r32c rfl)
        exact r_return dX5_closeTree_68 rfl ⟨k25, rfl, h24⟩
    · have h26 := h13.2 c15
      refine r_aload_n dX5_closeTree_19 rfl ?_
      refine r_dup dX5_closeTree_20 rfl ?_
      refine r_getI dX5_closeTree_21 kf_RX5_35 (zlt hn rfl) sh_49 (Or.inl rfl) rfl ?_
      refine r_iconst dX5_closeTree_24 ?_
      refine r_isub dX5_closeTree_25 ?_
      obtain ⟨h27, h28⟩ := h26
      refine r_putI dX5_closeTree_26 kf_RX5_35 (zlt hn rfl) sh_49 rfl (Or.inl rfl) ?_
      have k29 := zok_o (i := 10) (x := (gI σ 49 10) - 1) k0 sh_49 h27
      refine r_aload_n dX5_closeTree_29 rfl ?_
      refine r_aload_n dX5_closeTree_30 rfl ?_
      refine r_getP (a := 50) dX5_closeTree_31 kf_RX5_11 (zlt hn rfl) sh_49 rfl (k29.1 _ _ _ (zlt hn rfl) p_49_2) ?_
      refine r_aload_n dX5_closeTree_34 rfl ?_
      refine r_getI dX5_closeTree_35 kf_RX5_35 (zlt hn rfl) sh_49 (Or.inl rfl) (gI_same _ _ _ _) ?_
      obtain ⟨h30, h31⟩ := h28
      refine r_ialoadE dX5_closeTree_38 (zlt hn rfl) sh_50 h30.1 h30.2 (gI_c (by decide)) ?_
      refine r_putI dX5_closeTree_39 kf_RX5_38 (zlt hn rfl) sh_49 rfl (Or.inl rfl) ?_
      have k32 := zok_o (i := 11) (x := gI σ 50 (((gI σ 49 10) - 1).toNat)) k29 sh_49 (k0.2.1 _ _)
      refine r_aload_n dX5_closeTree_42 rfl ?_
      refine r_dup dX5_closeTree_43 rfl ?_
      refine r_getI dX5_closeTree_44 kf_RX5_23 (zlt hn rfl) sh_49 (Or.inl rfl) ((gI_f (by decide)).trans (gI_f (by decide))) ?_
      refine r_iconst dX5_closeTree_47 ?_
      refine r_iadd dX5_closeTree_48 ?_
      obtain ⟨h33, h34⟩ := h31
      refine r_putI dX5_closeTree_49 kf_RX5_23 (zlt hn rfl) sh_49 rfl (Or.inl rfl) ?_
      have k35 := zok_o (i := 6) (x := (gI σ 49 6) + 1) k32 sh_49 h33
      refine r_aload_n dX5_closeTree_52 rfl ?_
      refine r_aload_n dX5_closeTree_53 rfl ?_
      refine r_getI dX5_closeTree_54 kf_RX5_35 (zlt hn rfl) sh_49 (Or.inl rfl) ((gI_f (by decide)).trans ((gI_f (by decide)).trans (gI_same _ _ _ _))) ?_
      refine r_if_ne (t := 64) dX5_closeTree_57 rfl h27  (fun c36 => ?_) (fun c37 => ?_)
      · have h38 := h34.1 c36
        refine r_iconst dX5_closeTree_64 ?_
        refine r_putI dX5_closeTree_65 kf_RX5_26 (zlt hn rfl) sh_49 rfl (Or.inl rfl) ?_
        have k39 := zok_o (i := 7) (x := 3) k35 sh_49 (r32c rfl)
        exact r_return dX5_closeTree_68 rfl ⟨k39, rfl, h38⟩
      · have h40 := h34.2 c37
        refine r_iconst dX5_closeTree_60 ?_
        refine r_goto (t := 65) dX5_closeTree_61 rfl ?_
        refine r_putI dX5_closeTree_65 kf_RX5_26 (zlt hn rfl) sh_49 rfl (Or.inl rfl) ?_
        have k41 := zok_o (i := 7) (x := 4) k35 sh_49 (r32c rfl)
        exact r_return dX5_closeTree_68 rfl ⟨k41, rfl, h40⟩
/-! StoneRoom$Reader.readNode -/
theorem dX5_readNode_0 : decode M_X5_readNode.2.1 0 = .ok (.aload_n 0, 1) := by decide +kernel
theorem dX5_readNode_1 : decode M_X5_readNode.2.1 1 = .ok (.getfield 61, 3) := by decide +kernel
theorem dX5_readNode_4 : decode M_X5_readNode.2.1 4 = .ok (.getfield 103, 3) := by decide +kernel
theorem dX5_readNode_7 : decode M_X5_readNode.2.1 7 = .ok (.sipush 250, 3) := by decide +kernel
theorem dX5_readNode_10 : decode M_X5_readNode.2.1 10 = .ok (.if_icmp .lt 14, 3) := by decide +kernel
theorem dX5_readNode_13 : decode M_X5_readNode.2.1 13 = .ok (.aload_n 0, 1) := by decide +kernel
theorem dX5_readNode_14 : decode M_X5_readNode.2.1 14 = .ok (.bipush 6, 2) := by decide +kernel
theorem dX5_readNode_16 : decode M_X5_readNode.2.1 16 = .ok (.aload_n 0, 1) := by decide +kernel
theorem dX5_readNode_17 : decode M_X5_readNode.2.1 17 = .ok (.getfield 23, 3) := by decide +kernel
theorem dX5_readNode_20 : decode M_X5_readNode.2.1 20 = .ok (.invokevirtual 87, 3) := by decide +kernel
theorem dX5_readNode_23 : decode M_X5_readNode.2.1 23 = .ok (.return_, 1) := by decide +kernel
theorem dX5_readNode_24 : decode M_X5_readNode.2.1 24 = .ok (.aload_n 0, 1) := by decide +kernel
theorem dX5_readNode_25 : decode M_X5_readNode.2.1 25 = .ok (.aload_n 0, 1) := by decide +kernel
theorem dX5_readNode_26 : decode M_X5_readNode.2.1 26 = .ok (.getfield 23, 3) := by decide +kernel
theorem dX5_readNode_29 : decode M_X5_readNode.2.1 29 = .ok (.putfield 41, 3) := by decide +kernel
theorem dX5_readNode_32 : decode M_X5_readNode.2.1 32 = .ok (.aload_n 0, 1) := by decide +kernel
theorem dX5_readNode_33 : decode M_X5_readNode.2.1 33 = .ok (.iconst 0, 1) := by decide +kernel
theorem dX5_readNode_34 : decode M_X5_readNode.2.1 34 = .ok (.putfield 44, 3) := by decide +kernel
theorem dX5_readNode_37 : decode M_X5_readNode.2.1 37 = .ok (.aload_n 0, 1) := by decide +kernel
theorem dX5_readNode_38 : decode M_X5_readNode.2.1 38 = .ok (.iconst 0, 1) := by decide +kernel
theorem dX5_readNode_39 : decode M_X5_readNode.2.1 39 = .ok (.putfield 47, 3) := by decide +kernel
theorem dX5_readNode_42 : decode M_X5_readNode.2.1 42 = .ok (.aload_n 0, 1) := by decide +kernel
theorem dX5_readNode_43 : decode M_X5_readNode.2.1 43 = .ok (.iconst (-1), 1) := by decide +kernel
theorem dX5_readNode_44 : decode M_X5_readNode.2.1 44 = .ok (.putfield 50, 3) := by decide +kernel
theorem dX5_readNode_47 : decode M_X5_readNode.2.1 47 = .ok (.aload_n 0, 1) := by decide +kernel
theorem dX5_readNode_48 : decode M_X5_readNode.2.1 48 = .ok (.getfield 15, 3) := by decide +kernel
theorem dX5_readNode_51 : decode M_X5_readNode.2.1 51 = .ok (.lconst 0, 1) := by decide +kernel
theorem dX5_readNode_52 : decode M_X5_readNode.2.1 52 = .ok (.invokestatic 106, 3) := by decide +kernel
theorem dX5_readNode_55 : decode M_X5_readNode.2.1 55 = .ok (.aload_n 0, 1) := by decide +kernel
theorem dX5_readNode_56 : decode M_X5_readNode.2.1 56 = .ok (.dup, 1) := by decide +kernel
theorem dX5_readNode_57 : decode M_X5_readNode.2.1 57 = .ok (.getfield 23, 3) := by decide +kernel
theorem dX5_readNode_60 : decode M_X5_readNode.2.1 60 = .ok (.iconst 1, 1) := by decide +kernel
theorem dX5_readNode_61 : decode M_X5_readNode.2.1 61 = .ok (.iadd, 1) := by decide +kernel
theorem dX5_readNode_62 : decode M_X5_readNode.2.1 62 = .ok (.putfield 23, 3) := by decide +kernel
theorem dX5_readNode_65 : decode M_X5_readNode.2.1 65 = .ok (.aload_n 0, 1) := by decide +kernel
theorem dX5_readNode_66 : decode M_X5_readNode.2.1 66 = .ok (.iconst 2, 1) := by decide +kernel
theorem dX5_readNode_67 : decode M_X5_readNode.2.1 67 = .ok (.putfield 26, 3) := by decide +kernel
theorem dX5_readNode_70 : decode M_X5_readNode.2.1 70 = .ok (.aload_n 0, 1) := by decide +kernel
theorem dX5_readNode_71 : decode M_X5_readNode.2.1 71 = .ok (.invokevirtual 69, 3) := by decide +kernel
theorem dX5_readNode_74 : decode M_X5_readNode.2.1 74 = .ok (.iconst 0, 1) := by decide +kernel
theorem dX5_readNode_75 : decode M_X5_readNode.2.1 75 = .ok (.istore_n 1, 1) := by decide +kernel
theorem dX5_readNode_76 : decode M_X5_readNode.2.1 76 = .ok (.iload_n 1, 1) := by decide +kernel
theorem dX5_readNode_77 : decode M_X5_readNode.2.1 77 = .ok (.sipush 1500, 3) := by decide +kernel
theorem dX5_readNode_80 : decode M_X5_readNode.2.1 80 = .ok (.if_icmp .ge 41, 3) := by decide +kernel
theorem dX5_readNode_83 : decode M_X5_readNode.2.1 83 = .ok (.aload_n 0, 1) := by decide +kernel
theorem dX5_readNode_84 : decode M_X5_readNode.2.1 84 = .ok (.getfield 29, 3) := by decide +kernel
theorem dX5_readNode_87 : decode M_X5_readNode.2.1 87 = .ok (.ifCond .ne 34, 3) := by decide +kernel
theorem dX5_readNode_90 : decode M_X5_readNode.2.1 90 = .ok (.aload_n 0, 1) := by decide +kernel
theorem dX5_readNode_91 : decode M_X5_readNode.2.1 91 = .ok (.getfield 53, 3) := by decide +kernel
theorem dX5_readNode_94 : decode M_X5_readNode.2.1 94 = .ok (.aload_n 0, 1) := by decide +kernel
theorem dX5_readNode_95 : decode M_X5_readNode.2.1 95 = .ok (.getfield 23, 3) := by decide +kernel
theorem dX5_readNode_98 : decode M_X5_readNode.2.1 98 = .ok (.invokevirtual 72, 3) := by decide +kernel
theorem dX5_readNode_101 : decode M_X5_readNode.2.1 101 = .ok (.invokestatic 112, 3) := by decide +kernel
theorem dX5_readNode_104 : decode M_X5_readNode.2.1 104 = .ok (.ifCond .eq 17, 3) := by decide +kernel
theorem dX5_readNode_107 : decode M_X5_readNode.2.1 107 = .ok (.aload_n 0, 1) := by decide +kernel
theorem dX5_readNode_108 : decode M_X5_readNode.2.1 108 = .ok (.invokevirtual 115, 3) := by decide +kernel
theorem dX5_readNode_111 : decode M_X5_readNode.2.1 111 = .ok (.aload_n 0, 1) := by decide +kernel
theorem dX5_readNode_112 : decode M_X5_readNode.2.1 112 = .ok (.invokevirtual 69, 3) := by decide +kernel
theorem dX5_readNode_115 : decode M_X5_readNode.2.1 115 = .ok (.iinc 1 1, 3) := by decide +kernel
theorem dX5_readNode_118 : decode M_X5_readNode.2.1 118 = .ok (.goto (-42), 3) := by decide +kernel
theorem dX5_readNode_121 : decode M_X5_readNode.2.1 121 = .ok (.aload_n 0, 1) := by decide +kernel
theorem dX5_readNode_122 : decode M_X5_readNode.2.1 122 = .ok (.getfield 29, 3) := by decide +kernel
theorem dX5_readNode_125 : decode M_X5_readNode.2.1 125 = .ok (.ifCond .ne 17, 3) := by decide +kernel
theorem dX5_readNode_128 : decode M_X5_readNode.2.1 128 = .ok (.aload_n 0, 1) := by decide +kernel
theorem dX5_readNode_129 : decode M_X5_readNode.2.1 129 = .ok (.getfield 47, 3) := by decide +kernel
theorem dX5_readNode_132 : decode M_X5_readNode.2.1 132 = .ok (.ifCond .ne 10, 3) := by decide +kernel
theorem dX5_readNode_135 : decode M_X5_readNode.2.1 135 = .ok (.aload_n 0, 1) := by decide +kernel
theorem dX5_readNode_136 : decode M_X5_readNode.2.1 136 = .ok (.invokevirtual 118, 3) := by decide +kernel
theorem dX5_readNode_139 : decode M_X5_readNode.2.1 139 = .ok (.goto 14, 3) := by decide +kernel
theorem dX5_readNode_142 : decode M_X5_readNode.2.1 142 = .ok (.aload_n 0, 1) := by decide +kernel
theorem dX5_readNode_143 : decode M_X5_readNode.2.1 143 = .ok (.getfield 29, 3) := by decide +kernel
theorem dX5_readNode_146 : decode M_X5_readNode.2.1 146 = .ok (.ifCond .ne 7, 3) := by decide +kernel
theorem dX5_readNode_149 : decode M_X5_readNode.2.1 149 = .ok (.aload_n 0, 1) := by decide +kernel
theorem dX5_readNode_150 : decode M_X5_readNode.2.1 150 = .ok (.invokevirtual 121, 3) := by decide +kernel
theorem dX5_readNode_153 : decode M_X5_readNode.2.1 153 = .ok (.return_, 1) := by decide +kernel
def L_X5_readNode_76 (X : ZX) (d n : Nat) (P : Option Value → ZSto → Prop) (x1 : Int) (σ : ZSto) : Prop := R32 x1 → ZOk n σ → Zn X M_X5_readNode d n P 76 [some (.ref (zB X + 49)), some (iV x1)] [] σ
theorem w_X5_readNode {X : ZX} {d n : Nat} {P : ZSto → Prop}  {σ : ZSto} (hn : 73 ≤ n)  
    (h : (∃ t1, gP σ 49 4 = some t1 ∧ zIsT t1 ∧ (gI σ t1 15 < 250 → ZkV X M_J7_fill_d0a16 d n [.ref (zB X + 51), .long ((0 : Int64))] (sI (sI (sI (sI σ 49 12 (gI σ 49 6)) 49 13 0) 49 14 0) 49 15 ((-1))) (fun σ13 => R32 ((gI σ13 49 6) + 1) ∧ ZkV X M_X5_skipBlanks d n [.ref (zB X + 49)] (sI (sI σ13 49 6 ((gI σ13 49 6) + 1)) 49 7 2) (fun σ22 => L_X5_readNode_76 X d n (zpV P) 0 σ22))) ∧ (¬ (gI σ t1 15 < 250) → ZkV X M_X5_fail d n [.ref (zB X + 49), iV 6, iV (gI σ 49 6)] σ (fun σ28 => P σ28)))) :
    ZkV X M_X5_readNode (d + 1) n [.ref (zB X + 49)] σ P := by
  refine zk_of (ls := [some (.ref (zB X + 49)), none]) pl_RX5 (Nat.le_of_ble_eq_true rfl) rfl (fun k0 => ?_)
  unfold Zn
  refine r_aload_n dX5_readNode_0 rfl ?_
  obtain ⟨t1, h2, h3, h4⟩ := h
  refine r_getP (a := t1) dX5_readNode_1 kf_RX5_61 (zlt hn rfl) sh_49 rfl h2 ?_
  refine r_getI dX5_readNode_4 kf_RX5_103 (zT_lt h3 hn) (zT_s h3) (Or.inl rfl) rfl ?_
  refine r_sipush dX5_readNode_7 rfl ?_
  refine r_icmp_lt (t := 24) dX5_readNode_10 rfl (k0.2.1 _ _) (r32c rfl) (fun c5 => ?_) (fun c6 => ?_)
  · have h7 := h4.1 c5
    refine r_aload_n dX5_readNode_24 rfl ?_
    refine r_aload_n dX5_readNode_25 rfl ?_
    refine r_getI dX5_readNode_26 kf_RX5_23 (zlt hn rfl) sh_49 (Or.inl rfl) rfl ?_
    refine r_putI dX5_readNode_29 kf_RX5_41 (zlt hn rfl) sh_49 rfl (Or.inl rfl) ?_
    have k8 := zok_o (i := 12) (x := gI σ 49 6) k0 sh_49 (k0.2.1 _ _)
    refine r_aload_n dX5_readNode_32 rfl ?_
    refine r_iconst dX5_readNode_33 ?_
    refine r_putI dX5_readNode_34 kf_RX5_44 (zlt hn rfl) sh_49 rfl (Or.inl rfl) ?_
    have k9 := zok_o (i := 13) (x := 0) k8 sh_49 (r32c rfl)
    refine r_aload_n dX5_readNode_37 rfl ?_
    refine r_iconst dX5_readNode_38 ?_
    refine r_putI dX5_readNode_39 kf_RX5_47 (zlt hn rfl) sh_49 rfl (Or.inl rfl) ?_
    have k10 := zok_o (i := 14) (x := 0) k9 sh_49 (r32c rfl)
    refine r_aload_n dX5_readNode_42 rfl ?_
    refine r_iconst dX5_readNode_43 ?_
    refine r_putI dX5_readNode_44 kf_RX5_50 (zlt hn rfl) sh_49 rfl (Or.inl rfl) ?_
    have k11 := zok_o (i := 15) (x := (-1)) k10 sh_49 (r32c rfl)
    refine r_aload_n dX5_readNode_47 rfl ?_
    refine r_getP (a := 51) dX5_readNode_48 kf_RX5_15 (zlt hn rfl) sh_49 rfl (k11.1 _ _ _ (zlt hn rfl) p_49_3) ?_
    refine r_lconst (v := 0) dX5_readNode_51 rfl ?_
    refine n_callS (N := M_J7_fill_d0a16) (As := [.ref (zB X + 51), .long ((0 : Int64))]) (st := []) dX5_readNode_52 mk_J7_fill_d0a16 km_RX5_106 kd_J7_fill_d0a16 rfl (zFits_rm d n n n (Nat.le_refl n)) (Nat.le_of_ble_eq_true rfl) rfl k11 h7 ?_
    rintro _ σ13 k14 ⟨rfl, h16⟩
    change Zm _ _ _ _ _ _ 55 _ [] _
    refine r_aload_n dX5_readNode_55 rfl ?_
    refine r_dup dX5_readNode_56 rfl ?_
    refine r_getI dX5_readNode_57 kf_RX5_23 (zlt hn rfl) sh_49 (Or.inl rfl) rfl ?_
    refine r_iconst dX5_readNode_60 ?_
    refine r_iadd dX5_readNode_61 ?_
    obtain ⟨h17, h18⟩ := h16
    refine r_putI dX5_readNode_62 kf_RX5_23 (zlt hn rfl) sh_49 rfl (Or.inl rfl) ?_
    have k19 := zok_o (i := 6) (x := (gI σ13 49 6) + 1) k14 sh_49 h17
    refine r_aload_n dX5_readNode_65 rfl ?_
    refine r_iconst dX5_readNode_66 ?_
    refine r_putI dX5_readNode_67 kf_RX5_26 (zlt hn rfl) sh_49 rfl (Or.inl rfl) ?_
    have k20 := zok_o (i := 7) (x := 2) k19 sh_49 (r32c rfl)
    refine r_aload_n dX5_readNode_70 rfl ?_
    refine n_callV (N := M_X5_skipBlanks) (As := []) (st := []) dX5_readNode_71 mk_X5_skipBlanks km_RX5_69 kd_X5_skipBlanks rfl (zlt hn rfl) sh_49 (q := (RX5, TX5, 16)) rfl rfl (zFits_rm d n n n (Nat.le_refl n)) (Nat.le_of_ble_eq_true rfl) rfl k20 h18 ?_
    rintro _ σ22 k23 ⟨rfl, h25⟩
    change Zm _ _ _ _ _ _ 74 _ [] _
    refine r_iconst dX5_readNode_74 ?_
    refine r_istore_n dX5_readNode_75 rfl rfl ?_
    exact r_mask [true, true] rfl (h25 (r32c rfl) k23)
  · have h26 := h4.2 c6
    refine r_aload_n dX5_readNode_13 rfl ?_
    refine r_bipush dX5_readNode_14 rfl ?_
    refine r_aload_n dX5_readNode_16 rfl ?_
    refine r_getI dX5_readNode_17 kf_RX5_23 (zlt hn rfl) sh_49 (Or.inl rfl) rfl ?_
    refine n_callV (N := M_X5_fail) (As := [iV 6, iV (gI σ 49 6)]) (st := []) dX5_readNode_20 mk_X5_fail km_RX5_87 kd_X5_fail rfl (zlt hn rfl) sh_49 (q := (RX5, TX5, 16)) rfl rfl (zFits_rm d n n n (Nat.le_refl n)) (Nat.le_of_ble_eq_true rfl) rfl k0 h26 ?_
    rintro _ σ28 k29 ⟨rfl, h31⟩
    change Zm _ _ _ _ _ _ 23 _ [] _
    exact r_return dX5_readNode_23 rfl ⟨k29, rfl, h31⟩
theorem b_X5_readNode_76 {X : ZX} {d n : Nat} {P : ZSto → Prop} {x1 : Int} {σ : ZSto} (hn : 73 ≤ n) 
    (h : (1500 ≤ x1 → (¬ gI σ 49 8 = 0 → (¬ gI σ 49 8 = 0 → P σ) ∧ (gI σ 49 8 = 0 → ZkV X M_X5_settleMove d n [.ref (zB X + 49)] σ (fun σ12 => P σ12))) ∧ (gI σ 49 8 = 0 → (¬ gI σ 49 14 = 0 → (¬ gI σ 49 8 = 0 → P σ) ∧ (gI σ 49 8 = 0 → ZkV X M_X5_settleMove d n [.ref (zB X + 49)] σ (fun σ25 => P σ25))) ∧ (gI σ 49 14 = 0 → ZkV X M_X5_settleSets d n [.ref (zB X + 49)] σ (fun σ31 => P σ31)))) ∧ (¬ (1500 ≤ x1) → (¬ gI σ 49 8 = 0 → (¬ gI σ 49 8 = 0 → (¬ gI σ 49 8 = 0 → P σ) ∧ (gI σ 49 8 = 0 → ZkV X M_X5_settleMove d n [.ref (zB X + 49)] σ (fun σ47 => P σ47))) ∧ (gI σ 49 8 = 0 → (¬ gI σ 49 14 = 0 → (¬ gI σ 49 8 = 0 → P σ) ∧ (gI σ 49 8 = 0 → ZkV X M_X5_settleMove d n [.ref (zB X + 49)] σ (fun σ60 => P σ60))) ∧ (gI σ 49 14 = 0 → ZkV X M_X5_settleSets d n [.ref (zB X + 49)] σ (fun σ66 => P σ66)))) ∧ (gI σ 49 8 = 0 → ZkI X M_X1_byteAt d n [.ref (zB X + 29), iV (gI σ 49 6)] σ (fun v71 σ72 => ZkZ X M_X5_isGreat d n [iV v71] σ72 (fun v76 σ77 => (v76 = 0 → (¬ gI σ77 49 8 = 0 → (¬ gI σ77 49 8 = 0 → P σ77) ∧ (gI σ77 49 8 = 0 → ZkV X M_X5_settleMove d n [.ref (zB X + 49)] σ77 (fun σ92 => P σ92))) ∧ (gI σ77 49 8 = 0 → (¬ gI σ77 49 14 = 0 → (¬ gI σ77 49 8 = 0 → P σ77) ∧ (gI σ77 49 8 = 0 → ZkV X M_X5_settleMove d n [.ref (zB X + 49)] σ77 (fun σ105 => P σ105))) ∧ (gI σ77 49 14 = 0 → ZkV X M_X5_settleSets d n [.ref (zB X + 49)] σ77 (fun σ111 => P σ111)))) ∧ (¬ (v76 = 0) → ZkV X M_X5_readProperty d n [.ref (zB X + 49)] σ77 (fun σ117 => ZkV X M_X5_skipBlanks d n [.ref (zB X + 49)] σ117 (fun σ122 => R32 (x1 + 1) ∧ L_X5_readNode_76 X d n (zpV P) (x1 + 1) σ122)))))))) :
    L_X5_readNode_76 X d n (zpV P) x1 σ := by
  intro hx1 k0
  unfold Zn
  refine r_iload_n dX5_readNode_76 rfl ?_
  refine r_sipush dX5_readNode_77 rfl ?_
  refine r_icmp_ge (t := 121) dX5_readNode_80 rfl hx1 (r32c rfl) (fun c1 => ?_) (fun c2 => ?_)
  · have h3 := h.1 c1
    refine r_aload_n dX5_readNode_121 rfl ?_
    refine r_getI dX5_readNode_122 kf_RX5_29 (zlt hn rfl) sh_49 (Or.inl rfl) rfl ?_
    refine r_if_ne (t := 142) dX5_readNode_125 rfl (k0.2.1 _ _)  (fun c4 => ?_) (fun c5 => ?_)
    · have h6 := h3.1 c4
      refine r_aload_n dX5_readNode_142 rfl ?_
      refine r_getI dX5_readNode_143 kf_RX5_29 (zlt hn rfl) sh_49 (Or.inl rfl) rfl ?_
      refine r_if_ne (t := 153) dX5_readNode_146 rfl (k0.2.1 _ _)  (fun c7 => ?_) (fun c8 => ?_)
      · have h9 := h6.1 c7
        exact r_return dX5_readNode_153 rfl ⟨k0, rfl, h9⟩
      · have h10 := h6.2 c8
        refine r_aload_n dX5_readNode_149 rfl ?_
        refine n_callV (N := M_X5_settleMove) (As := []) (st := []) dX5_readNode_150 mk_X5_settleMove km_RX5_121 kd_X5_settleMove rfl (zlt hn rfl) sh_49 (q := (RX5, TX5, 16)) rfl rfl (zFits_rm d n n n (Nat.le_refl n)) (Nat.le_of_ble_eq_true rfl) rfl k0 h10 ?_
        rintro _ σ12 k13 ⟨rfl, h15⟩
        change Zm _ _ _ _ _ _ 153 _ [] _
        exact r_return dX5_readNode_153 rfl ⟨k13, rfl, h15⟩
    · have h16 := h3.2 c5
      refine r_aload_n dX5_readNode_128 rfl ?_
      refine r_getI dX5_readNode_129 kf_RX5_47 (zlt hn rfl) sh_49 (Or.inl rfl) rfl ?_
      refine r_if_ne (t := 142) dX5_readNode_132 rfl (k0.2.1 _ _)  (fun c17 => ?_) (fun c18 => ?_)
      · have h19 := h16.1 c17
        refine r_aload_n dX5_readNode_142 rfl ?_
        refine r_getI dX5_readNode_143 kf_RX5_29 (zlt hn rfl) sh_49 (Or.inl rfl) rfl ?_
        refine r_if_ne (t := 153) dX5_readNode_146 rfl (k0.2.1 _ _)  (fun c20 => ?_) (fun c21 => ?_)
        · have h22 := h19.1 c20
          exact r_return dX5_readNode_153 rfl ⟨k0, rfl, h22⟩
        · have h23 := h19.2 c21
          refine r_aload_n dX5_readNode_149 rfl ?_
          refine n_callV (N := M_X5_settleMove) (As := []) (st := []) dX5_readNode_150 mk_X5_settleMove km_RX5_121 kd_X5_settleMove rfl (zlt hn rfl) sh_49 (q := (RX5, TX5, 16)) rfl rfl (zFits_rm d n n n (Nat.le_refl n)) (Nat.le_of_ble_eq_true rfl) rfl k0 h23 ?_
          rintro _ σ25 k26 ⟨rfl, h28⟩
          change Zm _ _ _ _ _ _ 153 _ [] _
          exact r_return dX5_readNode_153 rfl ⟨k26, rfl, h28⟩
      · have h29 := h16.2 c18
        refine r_aload_n dX5_readNode_135 rfl ?_
        refine n_callV (N := M_X5_settleSets) (As := []) (st := []) dX5_readNode_136 mk_X5_settleSets km_RX5_118 kd_X5_settleSets rfl (zlt hn rfl) sh_49 (q := (RX5, TX5, 16)) rfl rfl (zFits_rm d n n n (Nat.le_refl n)) (Nat.le_of_ble_eq_true rfl) rfl k0 h29 ?_
        rintro _ σ31 k32 ⟨rfl, h34⟩
        change Zm _ _ _ _ _ _ 139 _ [] _
        refine r_goto (t := 153) dX5_readNode_139 rfl ?_
        exact r_return dX5_readNode_153 rfl ⟨k32, rfl, h34⟩
  · have h35 := h.2 c2
    refine r_aload_n dX5_readNode_83 rfl ?_
    refine r_getI dX5_readNode_84 kf_RX5_29 (zlt hn rfl) sh_49 (Or.inl rfl) rfl ?_
    refine r_if_ne (t := 121) dX5_readNode_87 rfl (k0.2.1 _ _)  (fun c36 => ?_) (fun c37 => ?_)
    · have h38 := h35.1 c36
      refine r_aload_n dX5_readNode_121 rfl ?_
      refine r_getI dX5_readNode_122 kf_RX5_29 (zlt hn rfl) sh_49 (Or.inl rfl) rfl ?_
      refine r_if_ne (t := 142) dX5_readNode_125 rfl (k0.2.1 _ _)  (fun c39 => ?_) (fun c40 => ?_)
      · have h41 := h38.1 c39
        refine r_aload_n dX5_readNode_142 rfl ?_
        refine r_getI dX5_readNode_143 kf_RX5_29 (zlt hn rfl) sh_49 (Or.inl rfl) rfl ?_
        refine r_if_ne (t := 153) dX5_readNode_146 rfl (k0.2.1 _ _)  (fun c42 => ?_) (fun c43 => ?_)
        · have h44 := h41.1 c42
          exact r_return dX5_readNode_153 rfl ⟨k0, rfl, h44⟩
        · have h45 := h41.2 c43
          refine r_aload_n dX5_readNode_149 rfl ?_
          refine n_callV (N := M_X5_settleMove) (As := []) (st := []) dX5_readNode_150 mk_X5_settleMove km_RX5_121 kd_X5_settleMove rfl (zlt hn rfl) sh_49 (q := (RX5, TX5, 16)) rfl rfl (zFits_rm d n n n (Nat.le_refl n)) (Nat.le_of_ble_eq_true rfl) rfl k0 h45 ?_
          rintro _ σ47 k48 ⟨rfl, h50⟩
          change Zm _ _ _ _ _ _ 153 _ [] _
          exact r_return dX5_readNode_153 rfl ⟨k48, rfl, h50⟩
      · have h51 := h38.2 c40
        refine r_aload_n dX5_readNode_128 rfl ?_
        refine r_getI dX5_readNode_129 kf_RX5_47 (zlt hn rfl) sh_49 (Or.inl rfl) rfl ?_
        refine r_if_ne (t := 142) dX5_readNode_132 rfl (k0.2.1 _ _)  (fun c52 => ?_) (fun c53 => ?_)
        · have h54 := h51.1 c52
          refine r_aload_n dX5_readNode_142 rfl ?_
          refine r_getI dX5_readNode_143 kf_RX5_29 (zlt hn rfl) sh_49 (Or.inl rfl) rfl ?_
          refine r_if_ne (t := 153) dX5_readNode_146 rfl (k0.2.1 _ _)  (fun c55 => ?_) (fun c56 => ?_)
          · have h57 := h54.1 c55
            exact r_return dX5_readNode_153 rfl ⟨k0, rfl, h57⟩
          · have h58 := h54.2 c56
            refine r_aload_n dX5_readNode_149 rfl ?_
            refine n_callV (N := M_X5_settleMove) (As := []) (st := []) dX5_readNode_150 mk_X5_settleMove km_RX5_121 kd_X5_settleMove rfl (zlt hn rfl) sh_49 (q := (RX5, TX5, 16)) rfl rfl (zFits_rm d n n n (Nat.le_refl n)) (Nat.le_of_ble_eq_true rfl) rfl k0 h58 ?_
            rintro _ σ60 k61 ⟨rfl, h63⟩
            change Zm _ _ _ _ _ _ 153 _ [] _
            exact r_return dX5_readNode_153 rfl ⟨k61, rfl, h63⟩
        · have h64 := h51.2 c53
          refine r_aload_n dX5_readNode_135 rfl ?_
          refine n_callV (N := M_X5_settleSets) (As := []) (st := []) dX5_readNode_136 mk_X5_settleSets km_RX5_118 kd_X5_settleSets rfl (zlt hn rfl) sh_49 (q := (RX5, TX5, 16)) rfl rfl (zFits_rm d n n n (Nat.le_refl n)) (Nat.le_of_ble_eq_true rfl) rfl k0 h64 ?_
          rintro _ σ66 k67 ⟨rfl, h69⟩
          change Zm _ _ _ _ _ _ 139 _ [] _
          refine r_goto (t := 153) dX5_readNode_139 rfl ?_
          exact r_return dX5_readNode_153 rfl ⟨k67, rfl, h69⟩
    · have h70 := h35.2 c37
      refine r_aload_n dX5_readNode_90 rfl ?_
      refine r_getP (a := 29) dX5_readNode_91 kf_RX5_53 (zlt hn rfl) sh_49 rfl (k0.1 _ _ _ (zlt hn rfl) p_49_0) ?_
      refine r_aload_n dX5_readNode_94 rfl ?_
      refine r_getI dX5_readNode_95 kf_RX5_23 (zlt hn rfl) sh_49 (Or.inl rfl) rfl ?_
      refine n_callV (N := M_X1_byteAt) (As := [iV (gI σ 49 6)]) (st := []) dX5_readNode_98 mk_X1_byteAt km_RX5_72 kd_X1_byteAt rfl (zlt hn rfl) sh_29 (q := (RX1, TX1, 2)) rfl rfl (zFits_rm d n n n (Nat.le_refl n)) (Nat.le_of_ble_eq_true rfl) rfl k0 h70 ?_
      rintro _ σ72 k73 ⟨v71, rfl, h74, h75⟩
      change Zm _ _ _ _ _ _ 101 _ [iV v71] _
      refine n_callS (N := M_X5_isGreat) (As := [iV v71]) (st := []) dX5_readNode_101 mk_X5_isGreat km_RX5_112 kd_X5_isGreat rfl (zFits_rm d n n n (Nat.le_refl n)) (Nat.le_of_ble_eq_true rfl) rfl k73 h75 ?_
      rintro _ σ77 k78 ⟨v76, rfl, h79, h80⟩
      change Zm _ _ _ _ _ _ 104 _ [iV v76] _
      refine r_if_eq (t := 121) dX5_readNode_104 rfl (r32_z h79)  (fun c81 => ?_) (fun c82 => ?_)
      · have h83 := h80.1 c81
        refine r_aload_n dX5_readNode_121 rfl ?_
        refine r_getI dX5_readNode_122 kf_RX5_29 (zlt hn rfl) sh_49 (Or.inl rfl) rfl ?_
        refine r_if_ne (t := 142) dX5_readNode_125 rfl (k78.2.1 _ _)  (fun c84 => ?_) (fun c85 => ?_)
        · have h86 := h83.1 c84
          refine r_aload_n dX5_readNode_142 rfl ?_
          refine r_getI dX5_readNode_143 kf_RX5_29 (zlt hn rfl) sh_49 (Or.inl rfl) rfl ?_
          refine r_if_ne (t := 153) dX5_readNode_146 rfl (k78.2.1 _ _)  (fun c87 => ?_) (fun c88 => ?_)
          · have h89 := h86.1 c87
            exact r_return dX5_readNode_153 rfl ⟨k78, rfl, h89⟩
          · have h90 := h86.2 c88
            refine r_aload_n dX5_readNode_149 rfl ?_
            refine n_callV (N := M_X5_settleMove) (As := []) (st := []) dX5_readNode_150 mk_X5_settleMove km_RX5_121 kd_X5_settleMove rfl (zlt hn rfl) sh_49 (q := (RX5, TX5, 16)) rfl rfl (zFits_rm d n n n (Nat.le_refl n)) (Nat.le_of_ble_eq_true rfl) rfl k78 h90 ?_
            rintro _ σ92 k93 ⟨rfl, h95⟩
            change Zm _ _ _ _ _ _ 153 _ [] _
            exact r_return dX5_readNode_153 rfl ⟨k93, rfl, h95⟩
        · have h96 := h83.2 c85
          refine r_aload_n dX5_readNode_128 rfl ?_
          refine r_getI dX5_readNode_129 kf_RX5_47 (zlt hn rfl) sh_49 (Or.inl rfl) rfl ?_
          refine r_if_ne (t := 142) dX5_readNode_132 rfl (k78.2.1 _ _)  (fun c97 => ?_) (fun c98 => ?_)
          · have h99 := h96.1 c97
            refine r_aload_n dX5_readNode_142 rfl ?_
            refine r_getI dX5_readNode_143 kf_RX5_29 (zlt hn rfl) sh_49 (Or.inl rfl) rfl ?_
            refine r_if_ne (t := 153) dX5_readNode_146 rfl (k78.2.1 _ _)  (fun c100 => ?_) (fun c101 => ?_)
            · have h102 := h99.1 c100
              exact r_return dX5_readNode_153 rfl ⟨k78, rfl, h102⟩
            · have h103 := h99.2 c101
              refine r_aload_n dX5_readNode_149 rfl ?_
              refine n_callV (N := M_X5_settleMove) (As := []) (st := []) dX5_readNode_150 mk_X5_settleMove km_RX5_121 kd_X5_settleMove rfl (zlt hn rfl) sh_49 (q := (RX5, TX5, 16)) rfl rfl (zFits_rm d n n n (Nat.le_refl n)) (Nat.le_of_ble_eq_true rfl) rfl k78 h103 ?_
              rintro _ σ105 k106 ⟨rfl, h108⟩
              change Zm _ _ _ _ _ _ 153 _ [] _
              exact r_return dX5_readNode_153 rfl ⟨k106, rfl, h108⟩
          · have h109 := h96.2 c98
            refine r_aload_n dX5_readNode_135 rfl ?_
            refine n_callV (N := M_X5_settleSets) (As := []) (st := []) dX5_readNode_136 mk_X5_settleSets km_RX5_118 kd_X5_settleSets rfl (zlt hn rfl) sh_49 (q := (RX5, TX5, 16)) rfl rfl (zFits_rm d n n n (Nat.le_refl n)) (Nat.le_of_ble_eq_true rfl) rfl k78 h109 ?_
            rintro _ σ111 k112 ⟨rfl, h114⟩
            change Zm _ _ _ _ _ _ 139 _ [] _
            refine r_goto (t := 153) dX5_readNode_139 rfl ?_
            exact r_return dX5_readNode_153 rfl ⟨k112, rfl, h114⟩
      · have h115 := h80.2 c82
        refine r_aload_n dX5_readNode_107 rfl ?_
        refine n_callV (N := M_X5_readProperty) (As := []) (st := []) dX5_readNode_108 mk_X5_readProperty km_RX5_115 kd_X5_readProperty rfl (zlt hn rfl) sh_49 (q := (RX5, TX5, 16)) rfl rfl (zFits_rm d n n n (Nat.le_refl n)) (Nat.le_of_ble_eq_true rfl) rfl k78 h115 ?_
        rintro _ σ117 k118 ⟨rfl, h120⟩
        change Zm _ _ _ _ _ _ 111 _ [] _
        refine r_aload_n dX5_readNode_111 rfl ?_
        refine n_callV (N := M_X5_skipBlanks) (As := []) (st := []) dX5_readNode_112 mk_X5_skipBlanks km_RX5_69 kd_X5_skipBlanks rfl (zlt hn rfl) sh_49 (q := (RX5, TX5, 16)) rfl rfl (zFits_rm d n n n (Nat.le_refl n)) (Nat.le_of_ble_eq_true rfl) rfl k118 h120 ?_
        rintro _ σ122 k123 ⟨rfl, h125⟩
        change Zm _ _ _ _ _ _ 115 _ [] _
        refine r_iinc dX5_readNode_115 rfl rfl rfl ?_
        refine r_goto (t := 76) dX5_readNode_118 rfl ?_
        obtain ⟨h126, h127⟩ := h125
        exact r_mask [true, true] rfl (h127 h126 k123)
/-! StoneRoom$Reader.readProperty -/
theorem dX5_readProperty_0 : decode M_X5_readProperty.2.1 0 = .ok (.aload_n 0, 1) := by decide +kernel
theorem dX5_readProperty_1 : decode M_X5_readProperty.2.1 1 = .ok (.getfield 23, 3) := by decide +kernel
theorem dX5_readProperty_4 : decode M_X5_readProperty.2.1 4 = .ok (.istore_n 1, 1) := by decide +kernel
theorem dX5_readProperty_5 : decode M_X5_readProperty.2.1 5 = .ok (.aload_n 0, 1) := by decide +kernel
theorem dX5_readProperty_6 : decode M_X5_readProperty.2.1 6 = .ok (.getfield 23, 3) := by decide +kernel
theorem dX5_readProperty_9 : decode M_X5_readProperty.2.1 9 = .ok (.aload_n 0, 1) := by decide +kernel
theorem dX5_readProperty_10 : decode M_X5_readProperty.2.1 10 = .ok (.getfield 53, 3) := by decide +kernel
theorem dX5_readProperty_13 : decode M_X5_readProperty.2.1 13 = .ok (.getfield 96, 3) := by decide +kernel
theorem dX5_readProperty_16 : decode M_X5_readProperty.2.1 16 = .ok (.if_icmp .ge 33, 3) := by decide +kernel
theorem dX5_readProperty_19 : decode M_X5_readProperty.2.1 19 = .ok (.aload_n 0, 1) := by decide +kernel
theorem dX5_readProperty_20 : decode M_X5_readProperty.2.1 20 = .ok (.getfield 53, 3) := by decide +kernel
theorem dX5_readProperty_23 : decode M_X5_readProperty.2.1 23 = .ok (.aload_n 0, 1) := by decide +kernel
theorem dX5_readProperty_24 : decode M_X5_readProperty.2.1 24 = .ok (.getfield 23, 3) := by decide +kernel
theorem dX5_readProperty_27 : decode M_X5_readProperty.2.1 27 = .ok (.invokevirtual 72, 3) := by decide +kernel
theorem dX5_readProperty_30 : decode M_X5_readProperty.2.1 30 = .ok (.invokestatic 112, 3) := by decide +kernel
theorem dX5_readProperty_33 : decode M_X5_readProperty.2.1 33 = .ok (.ifCond .eq 16, 3) := by decide +kernel
theorem dX5_readProperty_36 : decode M_X5_readProperty.2.1 36 = .ok (.aload_n 0, 1) := by decide +kernel
theorem dX5_readProperty_37 : decode M_X5_readProperty.2.1 37 = .ok (.dup, 1) := by decide +kernel
theorem dX5_readProperty_38 : decode M_X5_readProperty.2.1 38 = .ok (.getfield 23, 3) := by decide +kernel
theorem dX5_readProperty_41 : decode M_X5_readProperty.2.1 41 = .ok (.iconst 1, 1) := by decide +kernel
theorem dX5_readProperty_42 : decode M_X5_readProperty.2.1 42 = .ok (.iadd, 1) := by decide +kernel
theorem dX5_readProperty_43 : decode M_X5_readProperty.2.1 43 = .ok (.putfield 23, 3) := by decide +kernel
theorem dX5_readProperty_46 : decode M_X5_readProperty.2.1 46 = .ok (.goto (-41), 3) := by decide +kernel
theorem dX5_readProperty_49 : decode M_X5_readProperty.2.1 49 = .ok (.aload_n 0, 1) := by decide +kernel
theorem dX5_readProperty_50 : decode M_X5_readProperty.2.1 50 = .ok (.iload_n 1, 1) := by decide +kernel
theorem dX5_readProperty_51 : decode M_X5_readProperty.2.1 51 = .ok (.aload_n 0, 1) := by decide +kernel
theorem dX5_readProperty_52 : decode M_X5_readProperty.2.1 52 = .ok (.getfield 23, 3) := by decide +kernel
theorem dX5_readProperty_55 : decode M_X5_readProperty.2.1 55 = .ok (.iload_n 1, 1) := by decide +kernel
theorem dX5_readProperty_56 : decode M_X5_readProperty.2.1 56 = .ok (.isub, 1) := by decide +kernel
theorem dX5_readProperty_57 : decode M_X5_readProperty.2.1 57 = .ok (.invokevirtual 124, 3) := by decide +kernel
theorem dX5_readProperty_60 : decode M_X5_readProperty.2.1 60 = .ok (.istore_n 2, 1) := by decide +kernel
theorem dX5_readProperty_61 : decode M_X5_readProperty.2.1 61 = .ok (.aload_n 0, 1) := by decide +kernel
theorem dX5_readProperty_62 : decode M_X5_readProperty.2.1 62 = .ok (.iload_n 2, 1) := by decide +kernel
theorem dX5_readProperty_63 : decode M_X5_readProperty.2.1 63 = .ok (.invokevirtual 128, 3) := by decide +kernel
theorem dX5_readProperty_66 : decode M_X5_readProperty.2.1 66 = .ok (.ifCond .eq 10, 3) := by decide +kernel
theorem dX5_readProperty_69 : decode M_X5_readProperty.2.1 69 = .ok (.aload_n 0, 1) := by decide +kernel
theorem dX5_readProperty_70 : decode M_X5_readProperty.2.1 70 = .ok (.iconst 2, 1) := by decide +kernel
theorem dX5_readProperty_71 : decode M_X5_readProperty.2.1 71 = .ok (.iload_n 1, 1) := by decide +kernel
theorem dX5_readProperty_72 : decode M_X5_readProperty.2.1 72 = .ok (.invokevirtual 87, 3) := by decide +kernel
theorem dX5_readProperty_75 : decode M_X5_readProperty.2.1 75 = .ok (.return_, 1) := by decide +kernel
theorem dX5_readProperty_76 : decode M_X5_readProperty.2.1 76 = .ok (.aload_n 0, 1) := by decide +kernel
theorem dX5_readProperty_77 : decode M_X5_readProperty.2.1 77 = .ok (.dup, 1) := by decide +kernel
theorem dX5_readProperty_78 : decode M_X5_readProperty.2.1 78 = .ok (.getfield 44, 3) := by decide +kernel
theorem dX5_readProperty_81 : decode M_X5_readProperty.2.1 81 = .ok (.iload_n 2, 1) := by decide +kernel
theorem dX5_readProperty_82 : decode M_X5_readProperty.2.1 82 = .ok (.ior, 1) := by decide +kernel
theorem dX5_readProperty_83 : decode M_X5_readProperty.2.1 83 = .ok (.putfield 44, 3) := by decide +kernel
theorem dX5_readProperty_86 : decode M_X5_readProperty.2.1 86 = .ok (.aload_n 0, 1) := by decide +kernel
theorem dX5_readProperty_87 : decode M_X5_readProperty.2.1 87 = .ok (.invokevirtual 69, 3) := by decide +kernel
theorem dX5_readProperty_90 : decode M_X5_readProperty.2.1 90 = .ok (.aload_n 0, 1) := by decide +kernel
theorem dX5_readProperty_91 : decode M_X5_readProperty.2.1 91 = .ok (.getfield 53, 3) := by decide +kernel
theorem dX5_readProperty_94 : decode M_X5_readProperty.2.1 94 = .ok (.aload_n 0, 1) := by decide +kernel
theorem dX5_readProperty_95 : decode M_X5_readProperty.2.1 95 = .ok (.getfield 23, 3) := by decide +kernel
theorem dX5_readProperty_98 : decode M_X5_readProperty.2.1 98 = .ok (.invokevirtual 72, 3) := by decide +kernel
theorem dX5_readProperty_101 : decode M_X5_readProperty.2.1 101 = .ok (.bipush 91, 2) := by decide +kernel
theorem dX5_readProperty_103 : decode M_X5_readProperty.2.1 103 = .ok (.if_icmp .eq 12, 3) := by decide +kernel
theorem dX5_readProperty_106 : decode M_X5_readProperty.2.1 106 = .ok (.aload_n 0, 1) := by decide +kernel
theorem dX5_readProperty_107 : decode M_X5_readProperty.2.1 107 = .ok (.iconst 1, 1) := by decide +kernel
theorem dX5_readProperty_108 : decode M_X5_readProperty.2.1 108 = .ok (.aload_n 0, 1) := by decide +kernel
theorem dX5_readProperty_109 : decode M_X5_readProperty.2.1 109 = .ok (.getfield 23, 3) := by decide +kernel
theorem dX5_readProperty_112 : decode M_X5_readProperty.2.1 112 = .ok (.invokevirtual 87, 3) := by decide +kernel
theorem dX5_readProperty_115 : decode M_X5_readProperty.2.1 115 = .ok (.iconst 0, 1) := by decide +kernel
theorem dX5_readProperty_116 : decode M_X5_readProperty.2.1 116 = .ok (.istore_n 3, 1) := by decide +kernel
theorem dX5_readProperty_117 : decode M_X5_readProperty.2.1 117 = .ok (.iload_n 3, 1) := by decide +kernel
theorem dX5_readProperty_118 : decode M_X5_readProperty.2.1 118 = .ok (.sipush 1500, 3) := by decide +kernel
theorem dX5_readProperty_121 : decode M_X5_readProperty.2.1 121 = .ok (.if_icmp .ge 42, 3) := by decide +kernel
theorem dX5_readProperty_124 : decode M_X5_readProperty.2.1 124 = .ok (.aload_n 0, 1) := by decide +kernel
theorem dX5_readProperty_125 : decode M_X5_readProperty.2.1 125 = .ok (.getfield 29, 3) := by decide +kernel
theorem dX5_readProperty_128 : decode M_X5_readProperty.2.1 128 = .ok (.ifCond .ne 35, 3) := by decide +kernel
theorem dX5_readProperty_131 : decode M_X5_readProperty.2.1 131 = .ok (.aload_n 0, 1) := by decide +kernel
theorem dX5_readProperty_132 : decode M_X5_readProperty.2.1 132 = .ok (.getfield 53, 3) := by decide +kernel
theorem dX5_readProperty_135 : decode M_X5_readProperty.2.1 135 = .ok (.aload_n 0, 1) := by decide +kernel
theorem dX5_readProperty_136 : decode M_X5_readProperty.2.1 136 = .ok (.getfield 23, 3) := by decide +kernel
theorem dX5_readProperty_139 : decode M_X5_readProperty.2.1 139 = .ok (.invokevirtual 72, 3) := by decide +kernel
theorem dX5_readProperty_142 : decode M_X5_readProperty.2.1 142 = .ok (.bipush 91, 2) := by decide +kernel
theorem dX5_readProperty_144 : decode M_X5_readProperty.2.1 144 = .ok (.if_icmp .ne 19, 3) := by decide +kernel
theorem dX5_readProperty_147 : decode M_X5_readProperty.2.1 147 = .ok (.aload_n 0, 1) := by decide +kernel
theorem dX5_readProperty_148 : decode M_X5_readProperty.2.1 148 = .ok (.iload_n 2, 1) := by decide +kernel
theorem dX5_readProperty_149 : decode M_X5_readProperty.2.1 149 = .ok (.iload_n 3, 1) := by decide +kernel
theorem dX5_readProperty_150 : decode M_X5_readProperty.2.1 150 = .ok (.invokevirtual 131, 3) := by decide +kernel
theorem dX5_readProperty_153 : decode M_X5_readProperty.2.1 153 = .ok (.aload_n 0, 1) := by decide +kernel
theorem dX5_readProperty_154 : decode M_X5_readProperty.2.1 154 = .ok (.invokevirtual 69, 3) := by decide +kernel
theorem dX5_readProperty_157 : decode M_X5_readProperty.2.1 157 = .ok (.iinc 3 1, 3) := by decide +kernel
theorem dX5_readProperty_160 : decode M_X5_readProperty.2.1 160 = .ok (.goto (-43), 3) := by decide +kernel
theorem dX5_readProperty_163 : decode M_X5_readProperty.2.1 163 = .ok (.return_, 1) := by decide +kernel
def L_X5_readProperty_5 (X : ZX) (d n : Nat) (P : Option Value → ZSto → Prop) (x1 : Int) (σ : ZSto) : Prop := R32 x1 → ZOk n σ → Zn X M_X5_readProperty d n P 5 [some (.ref (zB X + 49)), some (iV x1), none, none] [] σ
def L_X5_readProperty_49 (X : ZX) (d n : Nat) (P : Option Value → ZSto → Prop) (x1 : Int) (σ : ZSto) : Prop := R32 x1 → ZOk n σ → Zn X M_X5_readProperty d n P 49 [some (.ref (zB X + 49)), some (iV x1), none, none] [] σ
def L_X5_readProperty_117 (X : ZX) (d n : Nat) (P : Option Value → ZSto → Prop) (x2 : Int) (x3 : Int) (σ : ZSto) : Prop := R32 x2 → R32 x3 → ZOk n σ → Zn X M_X5_readProperty d n P 117 [some (.ref (zB X + 49)), none, some (iV x2), some (iV x3)] [] σ
theorem w_X5_readProperty {X : ZX} {d n : Nat} {P : ZSto → Prop}  {σ : ZSto} (hn : 73 ≤ n)  
    (h : (∀ y1 : Int, y1 = gI σ 49 6 → L_X5_readProperty_5 X d n (zpV P) y1 σ)) :
    ZkV X M_X5_readProperty (d + 1) n [.ref (zB X + 49)] σ P := by
  refine zk_of (ls := [some (.ref (zB X + 49)), none, none, none]) pl_RX5 (Nat.le_of_ble_eq_true rfl) rfl (fun k0 => ?_)
  unfold Zn
  refine r_aload_n dX5_readProperty_0 rfl ?_
  refine r_getI dX5_readProperty_1 kf_RX5_23 (zlt hn rfl) sh_49 (Or.inl rfl) rfl ?_
  refine r_name (fun y1 e2 => ?_)
  have h3 := h y1 e2
  refine r_istore_n dX5_readProperty_4 rfl rfl ?_
  exact r_mask [true, true, false, false] rfl (h3 (by rw [e2]; exact (k0.2.1 _ _)) k0)
theorem b_X5_readProperty_5 {X : ZX} {d n : Nat} {P : ZSto → Prop} {x1 : Int} {σ : ZSto} (hn : 73 ≤ n) 
    (h : (gI σ 29 1 ≤ gI σ 49 6 → L_X5_readProperty_49 X d n (zpV P) x1 σ) ∧ (¬ (gI σ 29 1 ≤ gI σ 49 6) → ZkI X M_X1_byteAt d n [.ref (zB X + 29), iV (gI σ 49 6)] σ (fun v5 σ6 => ZkZ X M_X5_isGreat d n [iV v5] σ6 (fun v10 σ11 => (v10 = 0 → L_X5_readProperty_49 X d n (zpV P) x1 σ11) ∧ (¬ (v10 = 0) → R32 ((gI σ11 49 6) + 1) ∧ L_X5_readProperty_5 X d n (zpV P) x1 (sI σ11 49 6 ((gI σ11 49 6) + 1))))))) :
    L_X5_readProperty_5 X d n (zpV P) x1 σ := by
  intro hx1 k0
  unfold Zn
  refine r_aload_n dX5_readProperty_5 rfl ?_
  refine r_getI dX5_readProperty_6 kf_RX5_23 (zlt hn rfl) sh_49 (Or.inl rfl) rfl ?_
  refine r_aload_n dX5_readProperty_9 rfl ?_
  refine r_getP (a := 29) dX5_readProperty_10 kf_RX5_53 (zlt hn rfl) sh_49 rfl (k0.1 _ _ _ (zlt hn rfl) p_49_0) ?_
  refine r_getI dX5_readProperty_13 kf_RX5_96 (zlt hn rfl) sh_29 (Or.inl rfl) rfl ?_
  refine r_icmp_ge (t := 49) dX5_readProperty_16 rfl (k0.2.1 _ _) (k0.2.1 _ _) (fun c1 => ?_) (fun c2 => ?_)
  · have h3 := h.1 c1
    exact r_mask [true, true, false, false] rfl (h3 hx1 k0)
  · have h4 := h.2 c2
    refine r_aload_n dX5_readProperty_19 rfl ?_
    refine r_getP (a := 29) dX5_readProperty_20 kf_RX5_53 (zlt hn rfl) sh_49 rfl (k0.1 _ _ _ (zlt hn rfl) p_49_0) ?_
    refine r_aload_n dX5_readProperty_23 rfl ?_
    refine r_getI dX5_readProperty_24 kf_RX5_23 (zlt hn rfl) sh_49 (Or.inl rfl) rfl ?_
    refine n_callV (N := M_X1_byteAt) (As := [iV (gI σ 49 6)]) (st := []) dX5_readProperty_27 mk_X1_byteAt km_RX5_72 kd_X1_byteAt rfl (zlt hn rfl) sh_29 (q := (RX1, TX1, 2)) rfl rfl (zFits_rm d n n n (Nat.le_refl n)) (Nat.le_of_ble_eq_true rfl) rfl k0 h4 ?_
    rintro _ σ6 k7 ⟨v5, rfl, h8, h9⟩
    change Zm _ _ _ _ _ _ 30 _ [iV v5] _
    refine n_callS (N := M_X5_isGreat) (As := [iV v5]) (st := []) dX5_readProperty_30 mk_X5_isGreat km_RX5_112 kd_X5_isGreat rfl (zFits_rm d n n n (Nat.le_refl n)) (Nat.le_of_ble_eq_true rfl) rfl k7 h9 ?_
    rintro _ σ11 k12 ⟨v10, rfl, h13, h14⟩
    change Zm _ _ _ _ _ _ 33 _ [iV v10] _
    refine r_if_eq (t := 49) dX5_readProperty_33 rfl (r32_z h13)  (fun c15 => ?_) (fun c16 => ?_)
    · have h17 := h14.1 c15
      exact r_mask [true, true, false, false] rfl (h17 hx1 k12)
    · have h18 := h14.2 c16
      refine r_aload_n dX5_readProperty_36 rfl ?_
      refine r_dup dX5_readProperty_37 rfl ?_
      refine r_getI dX5_readProperty_38 kf_RX5_23 (zlt hn rfl) sh_49 (Or.inl rfl) rfl ?_
      refine r_iconst dX5_readProperty_41 ?_
      refine r_iadd dX5_readProperty_42 ?_
      obtain ⟨h19, h20⟩ := h18
      refine r_putI dX5_readProperty_43 kf_RX5_23 (zlt hn rfl) sh_49 rfl (Or.inl rfl) ?_
      have k21 := zok_o (i := 6) (x := (gI σ11 49 6) + 1) k12 sh_49 h19
      refine r_goto (t := 5) dX5_readProperty_46 rfl ?_
      exact r_mask [true, true, false, false] rfl (h20 hx1 k21)
theorem b_X5_readProperty_49 {X : ZX} {d n : Nat} {P : ZSto → Prop} {x1 : Int} {σ : ZSto} (hn : 73 ≤ n) 
    (h : ZkI X M_X5_nameOf d n [.ref (zB X + 49), iV x1, iV ((gI σ 49 6) - x1)] σ (fun v1 σ2 => ZkZ X M_X5_isMisplaced d n [.ref (zB X + 49), iV v1] σ2 (fun v6 σ7 => (v6 = 0 → ZkV X M_X5_skipBlanks d n [.ref (zB X + 49)] (sI σ7 49 13 (orI (gI σ7 49 13) v1)) (fun σ16 => ZkI X M_X1_byteAt d n [.ref (zB X + 29), iV (gI σ16 49 6)] σ16 (fun v20 σ21 => (v20 = 91 → L_X5_readProperty_117 X d n (zpV P) v1 0 σ21) ∧ (¬ (v20 = 91) → ZkV X M_X5_fail d n [.ref (zB X + 49), iV 1, iV (gI σ21 49 6)] σ21 (fun σ30 => L_X5_readProperty_117 X d n (zpV P) v1 0 σ30))))) ∧ (¬ (v6 = 0) → ZkV X M_X5_fail d n [.ref (zB X + 49), iV 2, iV x1] σ7 (fun σ36 => P σ36))))) :
    L_X5_readProperty_49 X d n (zpV P) x1 σ := by
  intro hx1 k0
  unfold Zn
  refine r_aload_n dX5_readProperty_49 rfl ?_
  refine r_iload_n dX5_readProperty_50 rfl ?_
  refine r_aload_n dX5_readProperty_51 rfl ?_
  refine r_getI dX5_readProperty_52 kf_RX5_23 (zlt hn rfl) sh_49 (Or.inl rfl) rfl ?_
  refine r_iload_n dX5_readProperty_55 rfl ?_
  refine r_isub dX5_readProperty_56 ?_
  refine n_callV (N := M_X5_nameOf) (As := [iV x1, iV ((gI σ 49 6) - x1)]) (st := []) dX5_readProperty_57 mk_X5_nameOf km_RX5_124 kd_X5_nameOf rfl (zlt hn rfl) sh_49 (q := (RX5, TX5, 16)) rfl rfl (zFits_rm d n n n (Nat.le_refl n)) (Nat.le_of_ble_eq_true rfl) rfl k0 h ?_
  rintro _ σ2 k3 ⟨v1, rfl, h4, h5⟩
  change Zm _ _ _ _ _ _ 60 _ [iV v1] _
  refine r_istore_n dX5_readProperty_60 rfl rfl ?_
  refine r_aload_n dX5_readProperty_61 rfl ?_
  refine r_iload_n dX5_readProperty_62 rfl ?_
  refine n_callV (N := M_X5_isMisplaced) (As := [iV v1]) (st := []) dX5_readProperty_63 mk_X5_isMisplaced km_RX5_128 kd_X5_isMisplaced rfl (zlt hn rfl) sh_49 (q := (RX5, TX5, 16)) rfl rfl (zFits_rm d n n n (Nat.le_refl n)) (Nat.le_of_ble_eq_true rfl) rfl k3 h5 ?_
  rintro _ σ7 k8 ⟨v6, rfl, h9, h10⟩
  change Zm _ _ _ _ _ _ 66 _ [iV v6] _
  refine r_if_eq (t := 76) dX5_readProperty_66 rfl (r32_z h9)  (fun c11 => ?_) (fun c12 => ?_)
  · have h13 := h10.1 c11
    refine r_aload_n dX5_readProperty_76 rfl ?_
    refine r_dup dX5_readProperty_77 rfl ?_
    refine r_getI dX5_readProperty_78 kf_RX5_44 (zlt hn rfl) sh_49 (Or.inl rfl) rfl ?_
    refine r_iload_n dX5_readProperty_81 rfl ?_
    refine r_ior dX5_readProperty_82 ?_
    refine r_putI dX5_readProperty_83 kf_RX5_44 (zlt hn rfl) sh_49 rfl (Or.inl rfl) ?_
    have k14 := zok_o (i := 13) (x := orI (gI σ7 49 13) v1) k8 sh_49 (r32_or _ _)
    refine r_aload_n dX5_readProperty_86 rfl ?_
    refine n_callV (N := M_X5_skipBlanks) (As := []) (st := []) dX5_readProperty_87 mk_X5_skipBlanks km_RX5_69 kd_X5_skipBlanks rfl (zlt hn rfl) sh_49 (q := (RX5, TX5, 16)) rfl rfl (zFits_rm d n n n (Nat.le_refl n)) (Nat.le_of_ble_eq_true rfl) rfl k14 h13 ?_
    rintro _ σ16 k17 ⟨rfl, h19⟩
    change Zm _ _ _ _ _ _ 90 _ [] _
    refine r_aload_n dX5_readProperty_90 rfl ?_
    refine r_getP (a := 29) dX5_readProperty_91 kf_RX5_53 (zlt hn rfl) sh_49 rfl (k17.1 _ _ _ (zlt hn rfl) p_49_0) ?_
    refine r_aload_n dX5_readProperty_94 rfl ?_
    refine r_getI dX5_readProperty_95 kf_RX5_23 (zlt hn rfl) sh_49 (Or.inl rfl) rfl ?_
    refine n_callV (N := M_X1_byteAt) (As := [iV (gI σ16 49 6)]) (st := []) dX5_readProperty_98 mk_X1_byteAt km_RX5_72 kd_X1_byteAt rfl (zlt hn rfl) sh_29 (q := (RX1, TX1, 2)) rfl rfl (zFits_rm d n n n (Nat.le_refl n)) (Nat.le_of_ble_eq_true rfl) rfl k17 h19 ?_
    rintro _ σ21 k22 ⟨v20, rfl, h23, h24⟩
    change Zm _ _ _ _ _ _ 101 _ [iV v20] _
    refine r_bipush dX5_readProperty_101 rfl ?_
    refine r_icmp_eq (t := 115) dX5_readProperty_103 rfl h23 (r32c rfl) (fun c25 => ?_) (fun c26 => ?_)
    · have h27 := h24.1 c25
      refine r_iconst dX5_readProperty_115 ?_
      refine r_istore_n dX5_readProperty_116 rfl rfl ?_
      exact r_mask [true, false, true, true] rfl (h27 h4 (r32c rfl) k22)
    · have h28 := h24.2 c26
      refine r_aload_n dX5_readProperty_106 rfl ?_
      refine r_iconst dX5_readProperty_107 ?_
      refine r_aload_n dX5_readProperty_108 rfl ?_
      refine r_getI dX5_readProperty_109 kf_RX5_23 (zlt hn rfl) sh_49 (Or.inl rfl) rfl ?_
      refine n_callV (N := M_X5_fail) (As := [iV 1, iV (gI σ21 49 6)]) (st := []) dX5_readProperty_112 mk_X5_fail km_RX5_87 kd_X5_fail rfl (zlt hn rfl) sh_49 (q := (RX5, TX5, 16)) rfl rfl (zFits_rm d n n n (Nat.le_refl n)) (Nat.le_of_ble_eq_true rfl) rfl k22 h28 ?_
      rintro _ σ30 k31 ⟨rfl, h33⟩
      change Zm _ _ _ _ _ _ 115 _ [] _
      refine r_iconst dX5_readProperty_115 ?_
      refine r_istore_n dX5_readProperty_116 rfl rfl ?_
      exact r_mask [true, false, true, true] rfl (h33 h4 (r32c rfl) k31)
  · have h34 := h10.2 c12
    refine r_aload_n dX5_readProperty_69 rfl ?_
    refine r_iconst dX5_readProperty_70 ?_
    refine r_iload_n dX5_readProperty_71 rfl ?_
    refine n_callV (N := M_X5_fail) (As := [iV 2, iV x1]) (st := []) dX5_readProperty_72 mk_X5_fail km_RX5_87 kd_X5_fail rfl (zlt hn rfl) sh_49 (q := (RX5, TX5, 16)) rfl rfl (zFits_rm d n n n (Nat.le_refl n)) (Nat.le_of_ble_eq_true rfl) rfl k8 h34 ?_
    rintro _ σ36 k37 ⟨rfl, h39⟩
    change Zm _ _ _ _ _ _ 75 _ [] _
    exact r_return dX5_readProperty_75 rfl ⟨k37, rfl, h39⟩
theorem b_X5_readProperty_117 {X : ZX} {d n : Nat} {P : ZSto → Prop} {x2 : Int} {x3 : Int} {σ : ZSto} (hn : 73 ≤ n) 
    (h : (1500 ≤ x3 → P σ) ∧ (¬ (1500 ≤ x3) → (¬ gI σ 49 8 = 0 → P σ) ∧ (gI σ 49 8 = 0 → ZkI X M_X1_byteAt d n [.ref (zB X + 29), iV (gI σ 49 6)] σ (fun v9 σ10 => (¬ v9 = 91 → P σ10) ∧ (v9 = 91 → ZkV X M_X5_readValue d n [.ref (zB X + 49), iV x2, iV x3] σ10 (fun σ19 => ZkV X M_X5_skipBlanks d n [.ref (zB X + 49)] σ19 (fun σ24 => R32 (x3 + 1) ∧ L_X5_readProperty_117 X d n (zpV P) x2 (x3 + 1) σ24))))))) :
    L_X5_readProperty_117 X d n (zpV P) x2 x3 σ := by
  intro hx2 hx3 k0
  unfold Zn
  refine r_iload_n dX5_readProperty_117 rfl ?_
  refine r_sipush dX5_readProperty_118 rfl ?_
  refine r_icmp_ge (t := 163) dX5_readProperty_121 rfl hx3 (r32c rfl) (fun c1 => ?_) (fun c2 => ?_)
  · have h3 := h.1 c1
    exact r_return dX5_readProperty_163 rfl ⟨k0, rfl, h3⟩
  · have h4 := h.2 c2
    refine r_aload_n dX5_readProperty_124 rfl ?_
    refine r_getI dX5_readProperty_125 kf_RX5_29 (zlt hn rfl) sh_49 (Or.inl rfl) rfl ?_
    refine r_if_ne (t := 163) dX5_readProperty_128 rfl (k0.2.1 _ _)  (fun c5 => ?_) (fun c6 => ?_)
    · have h7 := h4.1 c5
      exact r_return dX5_readProperty_163 rfl ⟨k0, rfl, h7⟩
    · have h8 := h4.2 c6
      refine r_aload_n dX5_readProperty_131 rfl ?_
      refine r_getP (a := 29) dX5_readProperty_132 kf_RX5_53 (zlt hn rfl) sh_49 rfl (k0.1 _ _ _ (zlt hn rfl) p_49_0) ?_
      refine r_aload_n dX5_readProperty_135 rfl ?_
      refine r_getI dX5_readProperty_136 kf_RX5_23 (zlt hn rfl) sh_49 (Or.inl rfl) rfl ?_
      refine n_callV (N := M_X1_byteAt) (As := [iV (gI σ 49 6)]) (st := []) dX5_readProperty_139 mk_X1_byteAt km_RX5_72 kd_X1_byteAt rfl (zlt hn rfl) sh_29 (q := (RX1, TX1, 2)) rfl rfl (zFits_rm d n n n (Nat.le_refl n)) (Nat.le_of_ble_eq_true rfl) rfl k0 h8 ?_
      rintro _ σ10 k11 ⟨v9, rfl, h12, h13⟩
      change Zm _ _ _ _ _ _ 142 _ [iV v9] _
      refine r_bipush dX5_readProperty_142 rfl ?_
      refine r_icmp_ne (t := 163) dX5_readProperty_144 rfl h12 (r32c rfl) (fun c14 => ?_) (fun c15 => ?_)
      · have h16 := h13.1 c14
        exact r_return dX5_readProperty_163 rfl ⟨k11, rfl, h16⟩
      · have h17 := h13.2 c15
        refine r_aload_n dX5_readProperty_147 rfl ?_
        refine r_iload_n dX5_readProperty_148 rfl ?_
        refine r_iload_n dX5_readProperty_149 rfl ?_
        refine n_callV (N := M_X5_readValue) (As := [iV x2, iV x3]) (st := []) dX5_readProperty_150 mk_X5_readValue km_RX5_131 kd_X5_readValue rfl (zlt hn rfl) sh_49 (q := (RX5, TX5, 16)) rfl rfl (zFits_rm d n n n (Nat.le_refl n)) (Nat.le_of_ble_eq_true rfl) rfl k11 h17 ?_
        rintro _ σ19 k20 ⟨rfl, h22⟩
        change Zm _ _ _ _ _ _ 153 _ [] _
        refine r_aload_n dX5_readProperty_153 rfl ?_
        refine n_callV (N := M_X5_skipBlanks) (As := []) (st := []) dX5_readProperty_154 mk_X5_skipBlanks km_RX5_69 kd_X5_skipBlanks rfl (zlt hn rfl) sh_49 (q := (RX5, TX5, 16)) rfl rfl (zFits_rm d n n n (Nat.le_refl n)) (Nat.le_of_ble_eq_true rfl) rfl k20 h22 ?_
        rintro _ σ24 k25 ⟨rfl, h27⟩
        change Zm _ _ _ _ _ _ 157 _ [] _
        refine r_iinc dX5_readProperty_157 rfl rfl rfl ?_
        refine r_goto (t := 117) dX5_readProperty_160 rfl ?_
        obtain ⟨h28, h29⟩ := h27
        exact r_mask [true, false, true, true] rfl (h29 hx2 h28 k25)
/-! StoneRoom$Reader.nameOf -/
theorem dX5_nameOf_0 : decode M_X5_nameOf.2.1 0 = .ok (.aload_n 0, 1) := by decide +kernel
theorem dX5_nameOf_1 : decode M_X5_nameOf.2.1 1 = .ok (.getfield 53, 3) := by decide +kernel
theorem dX5_nameOf_4 : decode M_X5_nameOf.2.1 4 = .ok (.iload_n 1, 1) := by decide +kernel
theorem dX5_nameOf_5 : decode M_X5_nameOf.2.1 5 = .ok (.invokevirtual 72, 3) := by decide +kernel
theorem dX5_nameOf_8 : decode M_X5_nameOf.2.1 8 = .ok (.istore_n 3, 1) := by decide +kernel
theorem dX5_nameOf_9 : decode M_X5_nameOf.2.1 9 = .ok (.iload_n 2, 1) := by decide +kernel
theorem dX5_nameOf_10 : decode M_X5_nameOf.2.1 10 = .ok (.iconst 1, 1) := by decide +kernel
theorem dX5_nameOf_11 : decode M_X5_nameOf.2.1 11 = .ok (.if_icmp .ne 26, 3) := by decide +kernel
theorem dX5_nameOf_14 : decode M_X5_nameOf.2.1 14 = .ok (.iload_n 3, 1) := by decide +kernel
theorem dX5_nameOf_15 : decode M_X5_nameOf.2.1 15 = .ok (.bipush 66, 2) := by decide +kernel
theorem dX5_nameOf_17 : decode M_X5_nameOf.2.1 17 = .ok (.if_icmp .ne 7, 3) := by decide +kernel
theorem dX5_nameOf_20 : decode M_X5_nameOf.2.1 20 = .ok (.iconst 4, 1) := by decide +kernel
theorem dX5_nameOf_21 : decode M_X5_nameOf.2.1 21 = .ok (.goto 15, 3) := by decide +kernel
theorem dX5_nameOf_24 : decode M_X5_nameOf.2.1 24 = .ok (.iload_n 3, 1) := by decide +kernel
theorem dX5_nameOf_25 : decode M_X5_nameOf.2.1 25 = .ok (.bipush 87, 2) := by decide +kernel
theorem dX5_nameOf_27 : decode M_X5_nameOf.2.1 27 = .ok (.if_icmp .ne 8, 3) := by decide +kernel
theorem dX5_nameOf_30 : decode M_X5_nameOf.2.1 30 = .ok (.bipush 8, 2) := by decide +kernel
theorem dX5_nameOf_32 : decode M_X5_nameOf.2.1 32 = .ok (.goto 4, 3) := by decide +kernel
theorem dX5_nameOf_35 : decode M_X5_nameOf.2.1 35 = .ok (.iconst 0, 1) := by decide +kernel
theorem dX5_nameOf_36 : decode M_X5_nameOf.2.1 36 = .ok (.ireturn, 1) := by decide +kernel
theorem dX5_nameOf_37 : decode M_X5_nameOf.2.1 37 = .ok (.iload_n 2, 1) := by decide +kernel
theorem dX5_nameOf_38 : decode M_X5_nameOf.2.1 38 = .ok (.iconst 2, 1) := by decide +kernel
theorem dX5_nameOf_39 : decode M_X5_nameOf.2.1 39 = .ok (.if_icmp .eq 5, 3) := by decide +kernel
theorem dX5_nameOf_42 : decode M_X5_nameOf.2.1 42 = .ok (.iconst 0, 1) := by decide +kernel
theorem dX5_nameOf_43 : decode M_X5_nameOf.2.1 43 = .ok (.ireturn, 1) := by decide +kernel
theorem dX5_nameOf_44 : decode M_X5_nameOf.2.1 44 = .ok (.aload_n 0, 1) := by decide +kernel
theorem dX5_nameOf_45 : decode M_X5_nameOf.2.1 45 = .ok (.getfield 53, 3) := by decide +kernel
theorem dX5_nameOf_48 : decode M_X5_nameOf.2.1 48 = .ok (.iload_n 1, 1) := by decide +kernel
theorem dX5_nameOf_49 : decode M_X5_nameOf.2.1 49 = .ok (.iconst 1, 1) := by decide +kernel
theorem dX5_nameOf_50 : decode M_X5_nameOf.2.1 50 = .ok (.iadd, 1) := by decide +kernel
theorem dX5_nameOf_51 : decode M_X5_nameOf.2.1 51 = .ok (.invokevirtual 72, 3) := by decide +kernel
theorem dX5_nameOf_54 : decode M_X5_nameOf.2.1 54 = .ok (.istore 4, 2) := by decide +kernel
theorem dX5_nameOf_56 : decode M_X5_nameOf.2.1 56 = .ok (.iload_n 3, 1) := by decide +kernel
theorem dX5_nameOf_57 : decode M_X5_nameOf.2.1 57 = .ok (.bipush 65, 2) := by decide +kernel
theorem dX5_nameOf_59 : decode M_X5_nameOf.2.1 59 = .ok (.if_icmp .ne 41, 3) := by decide +kernel
theorem dX5_nameOf_62 : decode M_X5_nameOf.2.1 62 = .ok (.iload 4, 2) := by decide +kernel
theorem dX5_nameOf_64 : decode M_X5_nameOf.2.1 64 = .ok (.bipush 66, 2) := by decide +kernel
theorem dX5_nameOf_66 : decode M_X5_nameOf.2.1 66 = .ok (.if_icmp .ne 8, 3) := by decide +kernel
theorem dX5_nameOf_69 : decode M_X5_nameOf.2.1 69 = .ok (.bipush 16, 2) := by decide +kernel
theorem dX5_nameOf_71 : decode M_X5_nameOf.2.1 71 = .ok (.goto 28, 3) := by decide +kernel
theorem dX5_nameOf_74 : decode M_X5_nameOf.2.1 74 = .ok (.iload 4, 2) := by decide +kernel
theorem dX5_nameOf_76 : decode M_X5_nameOf.2.1 76 = .ok (.bipush 87, 2) := by decide +kernel
theorem dX5_nameOf_78 : decode M_X5_nameOf.2.1 78 = .ok (.if_icmp .ne 8, 3) := by decide +kernel
theorem dX5_nameOf_81 : decode M_X5_nameOf.2.1 81 = .ok (.bipush 32, 2) := by decide +kernel
theorem dX5_nameOf_83 : decode M_X5_nameOf.2.1 83 = .ok (.goto 16, 3) := by decide +kernel
theorem dX5_nameOf_86 : decode M_X5_nameOf.2.1 86 = .ok (.iload 4, 2) := by decide +kernel
theorem dX5_nameOf_88 : decode M_X5_nameOf.2.1 88 = .ok (.bipush 69, 2) := by decide +kernel
theorem dX5_nameOf_90 : decode M_X5_nameOf.2.1 90 = .ok (.if_icmp .ne 8, 3) := by decide +kernel
theorem dX5_nameOf_93 : decode M_X5_nameOf.2.1 93 = .ok (.bipush 64, 2) := by decide +kernel
theorem dX5_nameOf_95 : decode M_X5_nameOf.2.1 95 = .ok (.goto 4, 3) := by decide +kernel
theorem dX5_nameOf_98 : decode M_X5_nameOf.2.1 98 = .ok (.iconst 0, 1) := by decide +kernel
theorem dX5_nameOf_99 : decode M_X5_nameOf.2.1 99 = .ok (.ireturn, 1) := by decide +kernel
theorem dX5_nameOf_100 : decode M_X5_nameOf.2.1 100 = .ok (.iload_n 3, 1) := by decide +kernel
theorem dX5_nameOf_101 : decode M_X5_nameOf.2.1 101 = .ok (.bipush 83, 2) := by decide +kernel
theorem dX5_nameOf_103 : decode M_X5_nameOf.2.1 103 = .ok (.if_icmp .ne 12, 3) := by decide +kernel
theorem dX5_nameOf_106 : decode M_X5_nameOf.2.1 106 = .ok (.iload 4, 2) := by decide +kernel
theorem dX5_nameOf_108 : decode M_X5_nameOf.2.1 108 = .ok (.bipush 90, 2) := by decide +kernel
theorem dX5_nameOf_110 : decode M_X5_nameOf.2.1 110 = .ok (.if_icmp .ne 5, 3) := by decide +kernel
theorem dX5_nameOf_113 : decode M_X5_nameOf.2.1 113 = .ok (.iconst 1, 1) := by decide +kernel
theorem dX5_nameOf_114 : decode M_X5_nameOf.2.1 114 = .ok (.ireturn, 1) := by decide +kernel
theorem dX5_nameOf_115 : decode M_X5_nameOf.2.1 115 = .ok (.iload_n 3, 1) := by decide +kernel
theorem dX5_nameOf_116 : decode M_X5_nameOf.2.1 116 = .ok (.bipush 75, 2) := by decide +kernel
theorem dX5_nameOf_118 : decode M_X5_nameOf.2.1 118 = .ok (.if_icmp .ne 14, 3) := by decide +kernel
theorem dX5_nameOf_121 : decode M_X5_nameOf.2.1 121 = .ok (.iload 4, 2) := by decide +kernel
theorem dX5_nameOf_123 : decode M_X5_nameOf.2.1 123 = .ok (.bipush 77, 2) := by decide +kernel
theorem dX5_nameOf_125 : decode M_X5_nameOf.2.1 125 = .ok (.if_icmp .ne 7, 3) := by decide +kernel
theorem dX5_nameOf_128 : decode M_X5_nameOf.2.1 128 = .ok (.iconst 2, 1) := by decide +kernel
theorem dX5_nameOf_129 : decode M_X5_nameOf.2.1 129 = .ok (.goto 4, 3) := by decide +kernel
theorem dX5_nameOf_132 : decode M_X5_nameOf.2.1 132 = .ok (.iconst 0, 1) := by decide +kernel
theorem dX5_nameOf_133 : decode M_X5_nameOf.2.1 133 = .ok (.ireturn, 1) := by decide +kernel
theorem w_X5_nameOf {X : ZX} {d n : Nat} {P : Int → ZSto → Prop} {x1 : Int} {x2 : Int} {σ : ZSto} (hn : 73 ≤ n)  (hx1 : R32 x1) (hx2 : R32 x2)
    (h : ZkI X M_X1_byteAt d n [.ref (zB X + 29), iV x1] σ (fun v1 σ2 => (¬ x2 = 1 → (x2 = 2 → ZkI X M_X1_byteAt d n [.ref (zB X + 29), iV (x1 + 1)] σ2 (fun v12 σ13 => (¬ v1 = 65 → (¬ v1 = 83 → (¬ v1 = 75 → P 0 σ13) ∧ (v1 = 75 → (¬ v12 = 77 → P 0 σ13) ∧ (v12 = 77 → P 2 σ13))) ∧ (v1 = 83 → (¬ v12 = 90 → (¬ v1 = 75 → P 0 σ13) ∧ (v1 = 75 → (¬ v12 = 77 → P 0 σ13) ∧ (v12 = 77 → P 2 σ13))) ∧ (v12 = 90 → P 1 σ13))) ∧ (v1 = 65 → (¬ v12 = 66 → (¬ v12 = 87 → (¬ v12 = 69 → P 0 σ13) ∧ (v12 = 69 → P 64 σ13)) ∧ (v12 = 87 → P 32 σ13)) ∧ (v12 = 66 → P 16 σ13)))) ∧ (¬ (x2 = 2) → P 0 σ2)) ∧ (x2 = 1 → (¬ v1 = 66 → (¬ v1 = 87 → P 0 σ2) ∧ (v1 = 87 → P 8 σ2)) ∧ (v1 = 66 → P 4 σ2)))) :
    ZkI X M_X5_nameOf (d + 1) n [.ref (zB X + 49), iV x1, iV x2] σ P := by
  refine zk_of (ls := [some (.ref (zB X + 49)), some (iV x1), some (iV x2), none, none]) pl_RX5 (Nat.le_of_ble_eq_true rfl) rfl (fun k0 => ?_)
  unfold Zn
  refine r_aload_n dX5_nameOf_0 rfl ?_
  refine r_getP (a := 29) dX5_nameOf_1 kf_RX5_53 (zlt hn rfl) sh_49 rfl (k0.1 _ _ _ (zlt hn rfl) p_49_0) ?_
  refine r_iload_n dX5_nameOf_4 rfl ?_
  refine n_callV (N := M_X1_byteAt) (As := [iV x1]) (st := []) dX5_nameOf_5 mk_X1_byteAt km_RX5_72 kd_X1_byteAt rfl (zlt hn rfl) sh_29 (q := (RX1, TX1, 2)) rfl rfl (zFits_rm d n n n (Nat.le_refl n)) (Nat.le_of_ble_eq_true rfl) rfl k0 h ?_
  rintro _ σ2 k3 ⟨v1, rfl, h4, h5⟩
  change Zm _ _ _ _ _ _ 8 _ [iV v1] _
  refine r_istore_n dX5_nameOf_8 rfl rfl ?_
  refine r_iload_n dX5_nameOf_9 rfl ?_
  refine r_iconst dX5_nameOf_10 ?_
  refine r_icmp_ne (t := 37) dX5_nameOf_11 rfl hx2 (r32c rfl) (fun c6 => ?_) (fun c7 => ?_)
  · have h8 := h5.1 c6
    refine r_iload_n dX5_nameOf_37 rfl ?_
    refine r_iconst dX5_nameOf_38 ?_
    refine r_icmp_eq (t := 44) dX5_nameOf_39 rfl hx2 (r32c rfl) (fun c9 => ?_) (fun c10 => ?_)
    · have h11 := h8.1 c9
      refine r_aload_n dX5_nameOf_44 rfl ?_
      refine r_getP (a := 29) dX5_nameOf_45 kf_RX5_53 (zlt hn rfl) sh_49 rfl (k3.1 _ _ _ (zlt hn rfl) p_49_0) ?_
      refine r_iload_n dX5_nameOf_48 rfl ?_
      refine r_iconst dX5_nameOf_49 ?_
      refine r_iadd dX5_nameOf_50 ?_
      refine n_callV (N := M_X1_byteAt) (As := [iV (x1 + 1)]) (st := []) dX5_nameOf_51 mk_X1_byteAt km_RX5_72 kd_X1_byteAt rfl (zlt hn rfl) sh_29 (q := (RX1, TX1, 2)) rfl rfl (zFits_rm d n n n (Nat.le_refl n)) (Nat.le_of_ble_eq_true rfl) rfl k3 h11 ?_
      rintro _ σ13 k14 ⟨v12, rfl, h15, h16⟩
      change Zm _ _ _ _ _ _ 54 _ [iV v12] _
      refine r_istore dX5_nameOf_54 rfl rfl ?_
      refine r_iload_n dX5_nameOf_56 rfl ?_
      refine r_bipush dX5_nameOf_57 rfl ?_
      refine r_icmp_ne (t := 100) dX5_nameOf_59 rfl h4 (r32c rfl) (fun c17 => ?_) (fun c18 => ?_)
      · have h19 := h16.1 c17
        refine r_iload_n dX5_nameOf_100 rfl ?_
        refine r_bipush dX5_nameOf_101 rfl ?_
        refine r_icmp_ne (t := 115) dX5_nameOf_103 rfl h4 (r32c rfl) (fun c20 => ?_) (fun c21 => ?_)
        · have h22 := h19.1 c20
          refine r_iload_n dX5_nameOf_115 rfl ?_
          refine r_bipush dX5_nameOf_116 rfl ?_
          refine r_icmp_ne (t := 132) dX5_nameOf_118 rfl h4 (r32c rfl) (fun c23 => ?_) (fun c24 => ?_)
          · have h25 := h22.1 c23
            refine r_iconst dX5_nameOf_132 ?_
            exact r_ireturn dX5_nameOf_133 rfl ⟨k14, _, rfl, (r32c rfl), h25⟩
          · have h26 := h22.2 c24
            refine r_iload dX5_nameOf_121 rfl ?_
            refine r_bipush dX5_nameOf_123 rfl ?_
            refine r_icmp_ne (t := 132) dX5_nameOf_125 rfl h15 (r32c rfl) (fun c27 => ?_) (fun c28 => ?_)
            · have h29 := h26.1 c27
              refine r_iconst dX5_nameOf_132 ?_
              exact r_ireturn dX5_nameOf_133 rfl ⟨k14, _, rfl, (r32c rfl), h29⟩
            · have h30 := h26.2 c28
              refine r_iconst dX5_nameOf_128 ?_
              refine r_goto (t := 133) dX5_nameOf_129 rfl ?_
              exact r_ireturn dX5_nameOf_133 rfl ⟨k14, _, rfl, (r32c rfl), h30⟩
        · have h31 := h19.2 c21
          refine r_iload dX5_nameOf_106 rfl ?_
          refine r_bipush dX5_nameOf_108 rfl ?_
          refine r_icmp_ne (t := 115) dX5_nameOf_110 rfl h15 (r32c rfl) (fun c32 => ?_) (fun c33 => ?_)
          · have h34 := h31.1 c32
            refine r_iload_n dX5_nameOf_115 rfl ?_
            refine r_bipush dX5_nameOf_116 rfl ?_
            refine r_icmp_ne (t := 132) dX5_nameOf_118 rfl h4 (r32c rfl) (fun c35 => ?_) (fun c36 => ?_)
            · have h37 := h34.1 c35
              refine r_iconst dX5_nameOf_132 ?_
              exact r_ireturn dX5_nameOf_133 rfl ⟨k14, _, rfl, (r32c rfl), h37⟩
            · have h38 := h34.2 c36
              refine r_iload dX5_nameOf_121 rfl ?_
              refine r_bipush dX5_nameOf_123 rfl ?_
              refine r_icmp_ne (t := 132) dX5_nameOf_125 rfl h15 (r32c rfl) (fun c39 => ?_) (fun c40 => ?_)
              · have h41 := h38.1 c39
                refine r_iconst dX5_nameOf_132 ?_
                exact r_ireturn dX5_nameOf_133 rfl ⟨k14, _, rfl, (r32c rfl), h41⟩
              · have h42 := h38.2 c40
                refine r_iconst dX5_nameOf_128 ?_
                refine r_goto (t := 133) dX5_nameOf_129 rfl ?_
                exact r_ireturn dX5_nameOf_133 rfl ⟨k14, _, rfl, (r32c rfl), h42⟩
          · have h43 := h31.2 c33
            refine r_iconst dX5_nameOf_113 ?_
            exact r_ireturn dX5_nameOf_114 rfl ⟨k14, _, rfl, (r32c rfl), h43⟩
      · have h44 := h16.2 c18
        refine r_iload dX5_nameOf_62 rfl ?_
        refine r_bipush dX5_nameOf_64 rfl ?_
        refine r_icmp_ne (t := 74) dX5_nameOf_66 rfl h15 (r32c rfl) (fun c45 => ?_) (fun c46 => ?_)
        · have h47 := h44.1 c45
          refine r_iload dX5_nameOf_74 rfl ?_
          refine r_bipush dX5_nameOf_76 rfl ?_
          refine r_icmp_ne (t := 86) dX5_nameOf_78 rfl h15 (r32c rfl) (fun c48 => ?_) (fun c49 => ?_)
          · have h50 := h47.1 c48
            refine r_iload dX5_nameOf_86 rfl ?_
            refine r_bipush dX5_nameOf_88 rfl ?_
            refine r_icmp_ne (t := 98) dX5_nameOf_90 rfl h15 (r32c rfl) (fun c51 => ?_) (fun c52 => ?_)
            · have h53 := h50.1 c51
              refine r_iconst dX5_nameOf_98 ?_
              exact r_ireturn dX5_nameOf_99 rfl ⟨k14, _, rfl, (r32c rfl), h53⟩
            · have h54 := h50.2 c52
              refine r_bipush dX5_nameOf_93 rfl ?_
              refine r_goto (t := 99) dX5_nameOf_95 rfl ?_
              exact r_ireturn dX5_nameOf_99 rfl ⟨k14, _, rfl, (r32c rfl), h54⟩
          · have h55 := h47.2 c49
            refine r_bipush dX5_nameOf_81 rfl ?_
            refine r_goto (t := 99) dX5_nameOf_83 rfl ?_
            exact r_ireturn dX5_nameOf_99 rfl ⟨k14, _, rfl, (r32c rfl), h55⟩
        · have h56 := h44.2 c46
          refine r_bipush dX5_nameOf_69 rfl ?_
          refine r_goto (t := 99) dX5_nameOf_71 rfl ?_
          exact r_ireturn dX5_nameOf_99 rfl ⟨k14, _, rfl, (r32c rfl), h56⟩
    · have h57 := h8.2 c10
      refine r_iconst dX5_nameOf_42 ?_
      exact r_ireturn dX5_nameOf_43 rfl ⟨k3, _, rfl, (r32c rfl), h57⟩
  · have h58 := h5.2 c7
    refine r_iload_n dX5_nameOf_14 rfl ?_
    refine r_bipush dX5_nameOf_15 rfl ?_
    refine r_icmp_ne (t := 24) dX5_nameOf_17 rfl h4 (r32c rfl) (fun c59 => ?_) (fun c60 => ?_)
    · have h61 := h58.1 c59
      refine r_iload_n dX5_nameOf_24 rfl ?_
      refine r_bipush dX5_nameOf_25 rfl ?_
      refine r_icmp_ne (t := 35) dX5_nameOf_27 rfl h4 (r32c rfl) (fun c62 => ?_) (fun c63 => ?_)
      · have h64 := h61.1 c62
        refine r_iconst dX5_nameOf_35 ?_
        exact r_ireturn dX5_nameOf_36 rfl ⟨k3, _, rfl, (r32c rfl), h64⟩
      · have h65 := h61.2 c63
        refine r_bipush dX5_nameOf_30 rfl ?_
        refine r_goto (t := 36) dX5_nameOf_32 rfl ?_
        exact r_ireturn dX5_nameOf_36 rfl ⟨k3, _, rfl, (r32c rfl), h65⟩
    · have h66 := h58.2 c60
      refine r_iconst dX5_nameOf_20 ?_
      refine r_goto (t := 36) dX5_nameOf_21 rfl ?_
      exact r_ireturn dX5_nameOf_36 rfl ⟨k3, _, rfl, (r32c rfl), h66⟩
/-! StoneRoom$Reader.isMisplaced -/
theorem dX5_isMisplaced_0 : decode M_X5_isMisplaced.2.1 0 = .ok (.aload_n 0, 1) := by decide +kernel
theorem dX5_isMisplaced_1 : decode M_X5_isMisplaced.2.1 1 = .ok (.getfield 44, 3) := by decide +kernel
theorem dX5_isMisplaced_4 : decode M_X5_isMisplaced.2.1 4 = .ok (.iload_n 1, 1) := by decide +kernel
theorem dX5_isMisplaced_5 : decode M_X5_isMisplaced.2.1 5 = .ok (.iand, 1) := by decide +kernel
theorem dX5_isMisplaced_6 : decode M_X5_isMisplaced.2.1 6 = .ok (.ifCond .eq 5, 3) := by decide +kernel
theorem dX5_isMisplaced_9 : decode M_X5_isMisplaced.2.1 9 = .ok (.iconst 1, 1) := by decide +kernel
theorem dX5_isMisplaced_10 : decode M_X5_isMisplaced.2.1 10 = .ok (.ireturn, 1) := by decide +kernel
theorem dX5_isMisplaced_11 : decode M_X5_isMisplaced.2.1 11 = .ok (.iload_n 1, 1) := by decide +kernel
theorem dX5_isMisplaced_12 : decode M_X5_isMisplaced.2.1 12 = .ok (.iconst 3, 1) := by decide +kernel
theorem dX5_isMisplaced_13 : decode M_X5_isMisplaced.2.1 13 = .ok (.iand, 1) := by decide +kernel
theorem dX5_isMisplaced_14 : decode M_X5_isMisplaced.2.1 14 = .ok (.ifCond .eq 15, 3) := by decide +kernel
theorem dX5_isMisplaced_17 : decode M_X5_isMisplaced.2.1 17 = .ok (.aload_n 0, 1) := by decide +kernel
theorem dX5_isMisplaced_18 : decode M_X5_isMisplaced.2.1 18 = .ok (.getfield 61, 3) := by decide +kernel
theorem dX5_isMisplaced_21 : decode M_X5_isMisplaced.2.1 21 = .ok (.getfield 103, 3) := by decide +kernel
theorem dX5_isMisplaced_24 : decode M_X5_isMisplaced.2.1 24 = .ok (.ifCond .le 5, 3) := by decide +kernel
theorem dX5_isMisplaced_27 : decode M_X5_isMisplaced.2.1 27 = .ok (.iconst 1, 1) := by decide +kernel
theorem dX5_isMisplaced_28 : decode M_X5_isMisplaced.2.1 28 = .ok (.ireturn, 1) := by decide +kernel
theorem dX5_isMisplaced_29 : decode M_X5_isMisplaced.2.1 29 = .ok (.iload_n 1, 1) := by decide +kernel
theorem dX5_isMisplaced_30 : decode M_X5_isMisplaced.2.1 30 = .ok (.iconst 1, 1) := by decide +kernel
theorem dX5_isMisplaced_31 : decode M_X5_isMisplaced.2.1 31 = .ok (.if_icmp .eq 10, 3) := by decide +kernel
theorem dX5_isMisplaced_34 : decode M_X5_isMisplaced.2.1 34 = .ok (.iload_n 1, 1) := by decide +kernel
theorem dX5_isMisplaced_35 : decode M_X5_isMisplaced.2.1 35 = .ok (.bipush 12, 2) := by decide +kernel
theorem dX5_isMisplaced_37 : decode M_X5_isMisplaced.2.1 37 = .ok (.iand, 1) := by decide +kernel
theorem dX5_isMisplaced_38 : decode M_X5_isMisplaced.2.1 38 = .ok (.ifCond .eq 19, 3) := by decide +kernel
theorem dX5_isMisplaced_41 : decode M_X5_isMisplaced.2.1 41 = .ok (.aload_n 0, 1) := by decide +kernel
theorem dX5_isMisplaced_42 : decode M_X5_isMisplaced.2.1 42 = .ok (.getfield 44, 3) := by decide +kernel
theorem dX5_isMisplaced_45 : decode M_X5_isMisplaced.2.1 45 = .ok (.bipush 124, 2) := by decide +kernel
theorem dX5_isMisplaced_47 : decode M_X5_isMisplaced.2.1 47 = .ok (.iand, 1) := by decide +kernel
theorem dX5_isMisplaced_48 : decode M_X5_isMisplaced.2.1 48 = .ok (.ifCond .eq 7, 3) := by decide +kernel
theorem dX5_isMisplaced_51 : decode M_X5_isMisplaced.2.1 51 = .ok (.iconst 1, 1) := by decide +kernel
theorem dX5_isMisplaced_52 : decode M_X5_isMisplaced.2.1 52 = .ok (.goto 4, 3) := by decide +kernel
theorem dX5_isMisplaced_55 : decode M_X5_isMisplaced.2.1 55 = .ok (.iconst 0, 1) := by decide +kernel
theorem dX5_isMisplaced_56 : decode M_X5_isMisplaced.2.1 56 = .ok (.ireturn, 1) := by decide +kernel
theorem dX5_isMisplaced_57 : decode M_X5_isMisplaced.2.1 57 = .ok (.iload_n 1, 1) := by decide +kernel
theorem dX5_isMisplaced_58 : decode M_X5_isMisplaced.2.1 58 = .ok (.bipush 112, 2) := by decide +kernel
theorem dX5_isMisplaced_60 : decode M_X5_isMisplaced.2.1 60 = .ok (.iand, 1) := by decide +kernel
theorem dX5_isMisplaced_61 : decode M_X5_isMisplaced.2.1 61 = .ok (.ifCond .eq 17, 3) := by decide +kernel
theorem dX5_isMisplaced_64 : decode M_X5_isMisplaced.2.1 64 = .ok (.aload_n 0, 1) := by decide +kernel
theorem dX5_isMisplaced_65 : decode M_X5_isMisplaced.2.1 65 = .ok (.getfield 44, 3) := by decide +kernel
theorem dX5_isMisplaced_68 : decode M_X5_isMisplaced.2.1 68 = .ok (.bipush 12, 2) := by decide +kernel
theorem dX5_isMisplaced_70 : decode M_X5_isMisplaced.2.1 70 = .ok (.iand, 1) := by decide +kernel
theorem dX5_isMisplaced_71 : decode M_X5_isMisplaced.2.1 71 = .ok (.ifCond .eq 7, 3) := by decide +kernel
theorem dX5_isMisplaced_74 : decode M_X5_isMisplaced.2.1 74 = .ok (.iconst 1, 1) := by decide +kernel
theorem dX5_isMisplaced_75 : decode M_X5_isMisplaced.2.1 75 = .ok (.goto 4, 3) := by decide +kernel
theorem dX5_isMisplaced_78 : decode M_X5_isMisplaced.2.1 78 = .ok (.iconst 0, 1) := by decide +kernel
theorem dX5_isMisplaced_79 : decode M_X5_isMisplaced.2.1 79 = .ok (.ireturn, 1) := by decide +kernel
def L_X5_isMisplaced_29 (X : ZX) (d n : Nat) (P : Option Value → ZSto → Prop) (x1 : Int) (σ : ZSto) : Prop := R32 x1 → ZOk n σ → Zn X M_X5_isMisplaced d n P 29 [some (.ref (zB X + 49)), some (iV x1)] [] σ
theorem w_X5_isMisplaced {X : ZX} {d n : Nat} {P : Int → ZSto → Prop} {x1 : Int} {σ : ZSto} (hn : 73 ≤ n)  (hx1 : R32 x1)
    (h : (andI (gI σ 49 13) x1 = 0 → (andI x1 3 = 0 → L_X5_isMisplaced_29 X d n (zpZ P) x1 σ) ∧ (¬ (andI x1 3 = 0) → (∃ t8, gP σ 49 4 = some t8 ∧ zIsT t8 ∧ (gI σ t8 15 ≤ 0 → L_X5_isMisplaced_29 X d n (zpZ P) x1 σ) ∧ (¬ (gI σ t8 15 ≤ 0) → P 1 σ)))) ∧ (¬ (andI (gI σ 49 13) x1 = 0) → P 1 σ)) :
    ZkZ X M_X5_isMisplaced (d + 1) n [.ref (zB X + 49), iV x1] σ P := by
  refine zk_of (ls := [some (.ref (zB X + 49)), some (iV x1)]) pl_RX5 (Nat.le_of_ble_eq_true rfl) rfl (fun k0 => ?_)
  unfold Zn
  refine r_aload_n dX5_isMisplaced_0 rfl ?_
  refine r_getI dX5_isMisplaced_1 kf_RX5_44 (zlt hn rfl) sh_49 (Or.inl rfl) rfl ?_
  refine r_iload_n dX5_isMisplaced_4 rfl ?_
  refine r_iand dX5_isMisplaced_5 ?_
  refine r_if_eq (t := 11) dX5_isMisplaced_6 rfl (r32_and _ _)  (fun c1 => ?_) (fun c2 => ?_)
  · have h3 := h.1 c1
    refine r_iload_n dX5_isMisplaced_11 rfl ?_
    refine r_iconst dX5_isMisplaced_12 ?_
    refine r_iand dX5_isMisplaced_13 ?_
    refine r_if_eq (t := 29) dX5_isMisplaced_14 rfl (r32_and _ _)  (fun c4 => ?_) (fun c5 => ?_)
    · have h6 := h3.1 c4
      exact r_mask [true, true] rfl (h6 hx1 k0)
    · have h7 := h3.2 c5
      refine r_aload_n dX5_isMisplaced_17 rfl ?_
      obtain ⟨t8, h9, h10, h11⟩ := h7
      refine r_getP (a := t8) dX5_isMisplaced_18 kf_RX5_61 (zlt hn rfl) sh_49 rfl h9 ?_
      refine r_getI dX5_isMisplaced_21 kf_RX5_103 (zT_lt h10 hn) (zT_s h10) (Or.inl rfl) rfl ?_
      refine r_if_le (t := 29) dX5_isMisplaced_24 rfl (k0.2.1 _ _)  (fun c12 => ?_) (fun c13 => ?_)
      · have h14 := h11.1 c12
        exact r_mask [true, true] rfl (h14 hx1 k0)
      · have h15 := h11.2 c13
        refine r_iconst dX5_isMisplaced_27 ?_
        exact r_zreturn dX5_isMisplaced_28 rfl (Or.inr rfl) ⟨k0, _, rfl, (Or.inr rfl), h15⟩
  · have h16 := h.2 c2
    refine r_iconst dX5_isMisplaced_9 ?_
    exact r_zreturn dX5_isMisplaced_10 rfl (Or.inr rfl) ⟨k0, _, rfl, (Or.inr rfl), h16⟩
theorem b_X5_isMisplaced_29 {X : ZX} {d n : Nat} {P : Int → ZSto → Prop} {x1 : Int} {σ : ZSto} (hn : 73 ≤ n) 
    (h : (x1 = 1 → (andI (gI σ 49 13) 124 = 0 → P 0 σ) ∧ (¬ (andI (gI σ 49 13) 124 = 0) → P 1 σ)) ∧ (¬ (x1 = 1) → (andI x1 12 = 0 → (andI x1 112 = 0 → P 0 σ) ∧ (¬ (andI x1 112 = 0) → (andI (gI σ 49 13) 12 = 0 → P 0 σ) ∧ (¬ (andI (gI σ 49 13) 12 = 0) → P 1 σ))) ∧ (¬ (andI x1 12 = 0) → (andI (gI σ 49 13) 124 = 0 → P 0 σ) ∧ (¬ (andI (gI σ 49 13) 124 = 0) → P 1 σ)))) :
    L_X5_isMisplaced_29 X d n (zpZ P) x1 σ := by
  intro hx1 k0
  unfold Zn
  refine r_iload_n dX5_isMisplaced_29 rfl ?_
  refine r_iconst dX5_isMisplaced_30 ?_
  refine r_icmp_eq (t := 41) dX5_isMisplaced_31 rfl hx1 (r32c rfl) (fun c1 => ?_) (fun c2 => ?_)
  · have h3 := h.1 c1
    refine r_aload_n dX5_isMisplaced_41 rfl ?_
    refine r_getI dX5_isMisplaced_42 kf_RX5_44 (zlt hn rfl) sh_49 (Or.inl rfl) rfl ?_
    refine r_bipush dX5_isMisplaced_45 rfl ?_
    refine r_iand dX5_isMisplaced_47 ?_
    refine r_if_eq (t := 55) dX5_isMisplaced_48 rfl (r32_and _ _)  (fun c4 => ?_) (fun c5 => ?_)
    · have h6 := h3.1 c4
      refine r_iconst dX5_isMisplaced_55 ?_
      exact r_zreturn dX5_isMisplaced_56 rfl (Or.inl rfl) ⟨k0, _, rfl, (Or.inl rfl), h6⟩
    · have h7 := h3.2 c5
      refine r_iconst dX5_isMisplaced_51 ?_
      refine r_goto (t := 56) dX5_isMisplaced_52 rfl ?_
      exact r_zreturn dX5_isMisplaced_56 rfl (Or.inr rfl) ⟨k0, _, rfl, (Or.inr rfl), h7⟩
  · have h8 := h.2 c2
    refine r_iload_n dX5_isMisplaced_34 rfl ?_
    refine r_bipush dX5_isMisplaced_35 rfl ?_
    refine r_iand dX5_isMisplaced_37 ?_
    refine r_if_eq (t := 57) dX5_isMisplaced_38 rfl (r32_and _ _)  (fun c9 => ?_) (fun c10 => ?_)
    · have h11 := h8.1 c9
      refine r_iload_n dX5_isMisplaced_57 rfl ?_
      refine r_bipush dX5_isMisplaced_58 rfl ?_
      refine r_iand dX5_isMisplaced_60 ?_
      refine r_if_eq (t := 78) dX5_isMisplaced_61 rfl (r32_and _ _)  (fun c12 => ?_) (fun c13 => ?_)
      · have h14 := h11.1 c12
        refine r_iconst dX5_isMisplaced_78 ?_
        exact r_zreturn dX5_isMisplaced_79 rfl (Or.inl rfl) ⟨k0, _, rfl, (Or.inl rfl), h14⟩
      · have h15 := h11.2 c13
        refine r_aload_n dX5_isMisplaced_64 rfl ?_
        refine r_getI dX5_isMisplaced_65 kf_RX5_44 (zlt hn rfl) sh_49 (Or.inl rfl) rfl ?_
        refine r_bipush dX5_isMisplaced_68 rfl ?_
        refine r_iand dX5_isMisplaced_70 ?_
        refine r_if_eq (t := 78) dX5_isMisplaced_71 rfl (r32_and _ _)  (fun c16 => ?_) (fun c17 => ?_)
        · have h18 := h15.1 c16
          refine r_iconst dX5_isMisplaced_78 ?_
          exact r_zreturn dX5_isMisplaced_79 rfl (Or.inl rfl) ⟨k0, _, rfl, (Or.inl rfl), h18⟩
        · have h19 := h15.2 c17
          refine r_iconst dX5_isMisplaced_74 ?_
          refine r_goto (t := 79) dX5_isMisplaced_75 rfl ?_
          exact r_zreturn dX5_isMisplaced_79 rfl (Or.inr rfl) ⟨k0, _, rfl, (Or.inr rfl), h19⟩
    · have h20 := h8.2 c10
      refine r_aload_n dX5_isMisplaced_41 rfl ?_
      refine r_getI dX5_isMisplaced_42 kf_RX5_44 (zlt hn rfl) sh_49 (Or.inl rfl) rfl ?_
      refine r_bipush dX5_isMisplaced_45 rfl ?_
      refine r_iand dX5_isMisplaced_47 ?_
      refine r_if_eq (t := 55) dX5_isMisplaced_48 rfl (r32_and _ _)  (fun c21 => ?_) (fun c22 => ?_)
      · have h23 := h20.1 c21
        refine r_iconst dX5_isMisplaced_55 ?_
        exact r_zreturn dX5_isMisplaced_56 rfl (Or.inl rfl) ⟨k0, _, rfl, (Or.inl rfl), h23⟩
      · have h24 := h20.2 c22
        refine r_iconst dX5_isMisplaced_51 ?_
        refine r_goto (t := 56) dX5_isMisplaced_52 rfl ?_
        exact r_zreturn dX5_isMisplaced_56 rfl (Or.inr rfl) ⟨k0, _, rfl, (Or.inr rfl), h24⟩
/-! StoneRoom$Reader.readValue -/
theorem dX5_readValue_0 : decode M_X5_readValue.2.1 0 = .ok (.aload_n 0, 1) := by decide +kernel
theorem dX5_readValue_1 : decode M_X5_readValue.2.1 1 = .ok (.getfield 23, 3) := by decide +kernel
theorem dX5_readValue_4 : decode M_X5_readValue.2.1 4 = .ok (.istore_n 3, 1) := by decide +kernel
theorem dX5_readValue_5 : decode M_X5_readValue.2.1 5 = .ok (.iload_n 3, 1) := by decide +kernel
theorem dX5_readValue_6 : decode M_X5_readValue.2.1 6 = .ok (.iconst 1, 1) := by decide +kernel
theorem dX5_readValue_7 : decode M_X5_readValue.2.1 7 = .ok (.iadd, 1) := by decide +kernel
theorem dX5_readValue_8 : decode M_X5_readValue.2.1 8 = .ok (.istore 4, 2) := by decide +kernel
theorem dX5_readValue_10 : decode M_X5_readValue.2.1 10 = .ok (.aload_n 0, 1) := by decide +kernel
theorem dX5_readValue_11 : decode M_X5_readValue.2.1 11 = .ok (.iload_n 3, 1) := by decide +kernel
theorem dX5_readValue_12 : decode M_X5_readValue.2.1 12 = .ok (.invokevirtual 134, 3) := by decide +kernel
theorem dX5_readValue_15 : decode M_X5_readValue.2.1 15 = .ok (.istore 5, 2) := by decide +kernel
theorem dX5_readValue_17 : decode M_X5_readValue.2.1 17 = .ok (.iload 5, 2) := by decide +kernel
theorem dX5_readValue_19 : decode M_X5_readValue.2.1 19 = .ok (.aload_n 0, 1) := by decide +kernel
theorem dX5_readValue_20 : decode M_X5_readValue.2.1 20 = .ok (.getfield 53, 3) := by decide +kernel
theorem dX5_readValue_23 : decode M_X5_readValue.2.1 23 = .ok (.getfield 96, 3) := by decide +kernel
theorem dX5_readValue_26 : decode M_X5_readValue.2.1 26 = .ok (.if_icmp .lt 16, 3) := by decide +kernel
theorem dX5_readValue_29 : decode M_X5_readValue.2.1 29 = .ok (.aload_n 0, 1) := by decide +kernel
theorem dX5_readValue_30 : decode M_X5_readValue.2.1 30 = .ok (.iconst 1, 1) := by decide +kernel
theorem dX5_readValue_31 : decode M_X5_readValue.2.1 31 = .ok (.aload_n 0, 1) := by decide +kernel
theorem dX5_readValue_32 : decode M_X5_readValue.2.1 32 = .ok (.getfield 53, 3) := by decide +kernel
theorem dX5_readValue_35 : decode M_X5_readValue.2.1 35 = .ok (.getfield 96, 3) := by decide +kernel
theorem dX5_readValue_38 : decode M_X5_readValue.2.1 38 = .ok (.invokevirtual 87, 3) := by decide +kernel
theorem dX5_readValue_41 : decode M_X5_readValue.2.1 41 = .ok (.return_, 1) := by decide +kernel
theorem dX5_readValue_42 : decode M_X5_readValue.2.1 42 = .ok (.aload_n 0, 1) := by decide +kernel
theorem dX5_readValue_43 : decode M_X5_readValue.2.1 43 = .ok (.iload 5, 2) := by decide +kernel
theorem dX5_readValue_45 : decode M_X5_readValue.2.1 45 = .ok (.iconst 1, 1) := by decide +kernel
theorem dX5_readValue_46 : decode M_X5_readValue.2.1 46 = .ok (.iadd, 1) := by decide +kernel
theorem dX5_readValue_47 : decode M_X5_readValue.2.1 47 = .ok (.putfield 23, 3) := by decide +kernel
theorem dX5_readValue_50 : decode M_X5_readValue.2.1 50 = .ok (.iload_n 2, 1) := by decide +kernel
theorem dX5_readValue_51 : decode M_X5_readValue.2.1 51 = .ok (.ifCond .ne 7, 3) := by decide +kernel
theorem dX5_readValue_54 : decode M_X5_readValue.2.1 54 = .ok (.iconst 1, 1) := by decide +kernel
theorem dX5_readValue_55 : decode M_X5_readValue.2.1 55 = .ok (.goto 4, 3) := by decide +kernel
theorem dX5_readValue_58 : decode M_X5_readValue.2.1 58 = .ok (.iconst 0, 1) := by decide +kernel
theorem dX5_readValue_59 : decode M_X5_readValue.2.1 59 = .ok (.istore 6, 2) := by decide +kernel
theorem dX5_readValue_61 : decode M_X5_readValue.2.1 61 = .ok (.iload_n 1, 1) := by decide +kernel
theorem dX5_readValue_62 : decode M_X5_readValue.2.1 62 = .ok (.ifCond .ne 9, 3) := by decide +kernel
theorem dX5_readValue_65 : decode M_X5_readValue.2.1 65 = .ok (.iconst 1, 1) := by decide +kernel
theorem dX5_readValue_66 : decode M_X5_readValue.2.1 66 = .ok (.istore 6, 2) := by decide +kernel
theorem dX5_readValue_68 : decode M_X5_readValue.2.1 68 = .ok (.goto 188, 3) := by decide +kernel
theorem dX5_readValue_71 : decode M_X5_readValue.2.1 71 = .ok (.iload_n 1, 1) := by decide +kernel
theorem dX5_readValue_72 : decode M_X5_readValue.2.1 72 = .ok (.bipush 112, 2) := by decide +kernel
theorem dX5_readValue_74 : decode M_X5_readValue.2.1 74 = .ok (.iand, 1) := by decide +kernel
theorem dX5_readValue_75 : decode M_X5_readValue.2.1 75 = .ok (.ifCond .eq 21, 3) := by decide +kernel
theorem dX5_readValue_78 : decode M_X5_readValue.2.1 78 = .ok (.aload_n 0, 1) := by decide +kernel
theorem dX5_readValue_79 : decode M_X5_readValue.2.1 79 = .ok (.iload_n 1, 1) := by decide +kernel
theorem dX5_readValue_80 : decode M_X5_readValue.2.1 80 = .ok (.aload_n 0, 1) := by decide +kernel
theorem dX5_readValue_81 : decode M_X5_readValue.2.1 81 = .ok (.iload 4, 2) := by decide +kernel
theorem dX5_readValue_83 : decode M_X5_readValue.2.1 83 = .ok (.iload 5, 2) := by decide +kernel
theorem dX5_readValue_85 : decode M_X5_readValue.2.1 85 = .ok (.invokevirtual 137, 3) := by decide +kernel
theorem dX5_readValue_88 : decode M_X5_readValue.2.1 88 = .ok (.invokevirtual 140, 3) := by decide +kernel
theorem dX5_readValue_91 : decode M_X5_readValue.2.1 91 = .ok (.istore 6, 2) := by decide +kernel
theorem dX5_readValue_93 : decode M_X5_readValue.2.1 93 = .ok (.goto 163, 3) := by decide +kernel
theorem dX5_readValue_96 : decode M_X5_readValue.2.1 96 = .ok (.iload_n 1, 1) := by decide +kernel
theorem dX5_readValue_97 : decode M_X5_readValue.2.1 97 = .ok (.bipush 12, 2) := by decide +kernel
theorem dX5_readValue_99 : decode M_X5_readValue.2.1 99 = .ok (.iand, 1) := by decide +kernel
theorem dX5_readValue_100 : decode M_X5_readValue.2.1 100 = .ok (.ifCond .eq 59, 3) := by decide +kernel
theorem dX5_readValue_103 : decode M_X5_readValue.2.1 103 = .ok (.aload_n 0, 1) := by decide +kernel
theorem dX5_readValue_104 : decode M_X5_readValue.2.1 104 = .ok (.iload_n 1, 1) := by decide +kernel
theorem dX5_readValue_105 : decode M_X5_readValue.2.1 105 = .ok (.iconst 4, 1) := by decide +kernel
theorem dX5_readValue_106 : decode M_X5_readValue.2.1 106 = .ok (.if_icmp .ne 7, 3) := by decide +kernel
theorem dX5_readValue_109 : decode M_X5_readValue.2.1 109 = .ok (.iconst 1, 1) := by decide +kernel
theorem dX5_readValue_110 : decode M_X5_readValue.2.1 110 = .ok (.goto 4, 3) := by decide +kernel
theorem dX5_readValue_113 : decode M_X5_readValue.2.1 113 = .ok (.iconst 2, 1) := by decide +kernel
theorem dX5_readValue_114 : decode M_X5_readValue.2.1 114 = .ok (.putfield 47, 3) := by decide +kernel
theorem dX5_readValue_117 : decode M_X5_readValue.2.1 117 = .ok (.aload_n 0, 1) := by decide +kernel
theorem dX5_readValue_118 : decode M_X5_readValue.2.1 118 = .ok (.aload_n 0, 1) := by decide +kernel
theorem dX5_readValue_119 : decode M_X5_readValue.2.1 119 = .ok (.iload 4, 2) := by decide +kernel
theorem dX5_readValue_121 : decode M_X5_readValue.2.1 121 = .ok (.iload 5, 2) := by decide +kernel
theorem dX5_readValue_123 : decode M_X5_readValue.2.1 123 = .ok (.invokevirtual 137, 3) := by decide +kernel
theorem dX5_readValue_126 : decode M_X5_readValue.2.1 126 = .ok (.putfield 50, 3) := by decide +kernel
theorem dX5_readValue_129 : decode M_X5_readValue.2.1 129 = .ok (.iload 6, 2) := by decide +kernel
theorem dX5_readValue_131 : decode M_X5_readValue.2.1 131 = .ok (.ifCond .eq 22, 3) := by decide +kernel
theorem dX5_readValue_134 : decode M_X5_readValue.2.1 134 = .ok (.aload_n 0, 1) := by decide +kernel
theorem dX5_readValue_135 : decode M_X5_readValue.2.1 135 = .ok (.getfield 50, 3) := by decide +kernel
theorem dX5_readValue_138 : decode M_X5_readValue.2.1 138 = .ok (.iconst (-1), 1) := by decide +kernel
theorem dX5_readValue_139 : decode M_X5_readValue.2.1 139 = .ok (.if_icmp .ne 10, 3) := by decide +kernel
theorem dX5_readValue_142 : decode M_X5_readValue.2.1 142 = .ok (.iload 4, 2) := by decide +kernel
theorem dX5_readValue_144 : decode M_X5_readValue.2.1 144 = .ok (.iload 5, 2) := by decide +kernel
theorem dX5_readValue_146 : decode M_X5_readValue.2.1 146 = .ok (.if_icmp .ne 7, 3) := by decide +kernel
theorem dX5_readValue_149 : decode M_X5_readValue.2.1 149 = .ok (.iconst 1, 1) := by decide +kernel
theorem dX5_readValue_150 : decode M_X5_readValue.2.1 150 = .ok (.goto 4, 3) := by decide +kernel
theorem dX5_readValue_153 : decode M_X5_readValue.2.1 153 = .ok (.iconst 0, 1) := by decide +kernel
theorem dX5_readValue_154 : decode M_X5_readValue.2.1 154 = .ok (.istore 6, 2) := by decide +kernel
theorem dX5_readValue_156 : decode M_X5_readValue.2.1 156 = .ok (.goto 100, 3) := by decide +kernel
theorem dX5_readValue_159 : decode M_X5_readValue.2.1 159 = .ok (.iload_n 1, 1) := by decide +kernel
theorem dX5_readValue_160 : decode M_X5_readValue.2.1 160 = .ok (.iconst 1, 1) := by decide +kernel
theorem dX5_readValue_161 : decode M_X5_readValue.2.1 161 = .ok (.if_icmp .ne 33, 3) := by decide +kernel
theorem dX5_readValue_164 : decode M_X5_readValue.2.1 164 = .ok (.iload 6, 2) := by decide +kernel
theorem dX5_readValue_166 : decode M_X5_readValue.2.1 166 = .ok (.ifCond .eq 22, 3) := by decide +kernel
theorem dX5_readValue_169 : decode M_X5_readValue.2.1 169 = .ok (.aload_n 0, 1) := by decide +kernel
theorem dX5_readValue_170 : decode M_X5_readValue.2.1 170 = .ok (.aload_n 0, 1) := by decide +kernel
theorem dX5_readValue_171 : decode M_X5_readValue.2.1 171 = .ok (.iload 4, 2) := by decide +kernel
theorem dX5_readValue_173 : decode M_X5_readValue.2.1 173 = .ok (.iload 5, 2) := by decide +kernel
theorem dX5_readValue_175 : decode M_X5_readValue.2.1 175 = .ok (.invokevirtual 144, 3) := by decide +kernel
theorem dX5_readValue_178 : decode M_X5_readValue.2.1 178 = .ok (.invokevirtual 147, 3) := by decide +kernel
theorem dX5_readValue_181 : decode M_X5_readValue.2.1 181 = .ok (.ifCond .eq 7, 3) := by decide +kernel
theorem dX5_readValue_184 : decode M_X5_readValue.2.1 184 = .ok (.iconst 1, 1) := by decide +kernel
theorem dX5_readValue_185 : decode M_X5_readValue.2.1 185 = .ok (.goto 4, 3) := by decide +kernel
theorem dX5_readValue_188 : decode M_X5_readValue.2.1 188 = .ok (.iconst 0, 1) := by decide +kernel
theorem dX5_readValue_189 : decode M_X5_readValue.2.1 189 = .ok (.istore 6, 2) := by decide +kernel
theorem dX5_readValue_191 : decode M_X5_readValue.2.1 191 = .ok (.goto 65, 3) := by decide +kernel
theorem dX5_readValue_194 : decode M_X5_readValue.2.1 194 = .ok (.aload_n 0, 1) := by decide +kernel
theorem dX5_readValue_195 : decode M_X5_readValue.2.1 195 = .ok (.getfield 53, 3) := by decide +kernel
theorem dX5_readValue_198 : decode M_X5_readValue.2.1 198 = .ok (.iload 4, 2) := by decide +kernel
theorem dX5_readValue_200 : decode M_X5_readValue.2.1 200 = .ok (.invokevirtual 72, 3) := by decide +kernel
theorem dX5_readValue_203 : decode M_X5_readValue.2.1 203 = .ok (.bipush 45, 2) := by decide +kernel
theorem dX5_readValue_205 : decode M_X5_readValue.2.1 205 = .ok (.if_icmp .ne 7, 3) := by decide +kernel
theorem dX5_readValue_208 : decode M_X5_readValue.2.1 208 = .ok (.iconst 1, 1) := by decide +kernel
theorem dX5_readValue_209 : decode M_X5_readValue.2.1 209 = .ok (.goto 4, 3) := by decide +kernel
theorem dX5_readValue_212 : decode M_X5_readValue.2.1 212 = .ok (.iconst 0, 1) := by decide +kernel
theorem dX5_readValue_213 : decode M_X5_readValue.2.1 213 = .ok (.istore 7, 2) := by decide +kernel
theorem dX5_readValue_215 : decode M_X5_readValue.2.1 215 = .ok (.iload 6, 2) := by decide +kernel
theorem dX5_readValue_217 : decode M_X5_readValue.2.1 217 = .ok (.ifCond .eq 36, 3) := by decide +kernel
theorem dX5_readValue_220 : decode M_X5_readValue.2.1 220 = .ok (.aload_n 0, 1) := by decide +kernel
theorem dX5_readValue_221 : decode M_X5_readValue.2.1 221 = .ok (.aload_n 0, 1) := by decide +kernel
theorem dX5_readValue_222 : decode M_X5_readValue.2.1 222 = .ok (.iload 7, 2) := by decide +kernel
theorem dX5_readValue_224 : decode M_X5_readValue.2.1 224 = .ok (.ifCond .eq 10, 3) := by decide +kernel
theorem dX5_readValue_227 : decode M_X5_readValue.2.1 227 = .ok (.iload 4, 2) := by decide +kernel
theorem dX5_readValue_229 : decode M_X5_readValue.2.1 229 = .ok (.iconst 1, 1) := by decide +kernel
theorem dX5_readValue_230 : decode M_X5_readValue.2.1 230 = .ok (.iadd, 1) := by decide +kernel
theorem dX5_readValue_231 : decode M_X5_readValue.2.1 231 = .ok (.goto 5, 3) := by decide +kernel
theorem dX5_readValue_234 : decode M_X5_readValue.2.1 234 = .ok (.iload 4, 2) := by decide +kernel
theorem dX5_readValue_236 : decode M_X5_readValue.2.1 236 = .ok (.iload 5, 2) := by decide +kernel
theorem dX5_readValue_238 : decode M_X5_readValue.2.1 238 = .ok (.invokevirtual 144, 3) := by decide +kernel
theorem dX5_readValue_241 : decode M_X5_readValue.2.1 241 = .ok (.iload 7, 2) := by decide +kernel
theorem dX5_readValue_243 : decode M_X5_readValue.2.1 243 = .ok (.invokevirtual 150, 3) := by decide +kernel
theorem dX5_readValue_246 : decode M_X5_readValue.2.1 246 = .ok (.ifCond .eq 7, 3) := by decide +kernel
theorem dX5_readValue_249 : decode M_X5_readValue.2.1 249 = .ok (.iconst 1, 1) := by decide +kernel
theorem dX5_readValue_250 : decode M_X5_readValue.2.1 250 = .ok (.goto 4, 3) := by decide +kernel
theorem dX5_readValue_253 : decode M_X5_readValue.2.1 253 = .ok (.iconst 0, 1) := by decide +kernel
theorem dX5_readValue_254 : decode M_X5_readValue.2.1 254 = .ok (.istore 6, 2) := by decide +kernel
theorem dX5_readValue_256 : decode M_X5_readValue.2.1 256 = .ok (.iload 6, 2) := by decide +kernel
theorem dX5_readValue_258 : decode M_X5_readValue.2.1 258 = .ok (.ifCond .ne 9, 3) := by decide +kernel
theorem dX5_readValue_261 : decode M_X5_readValue.2.1 261 = .ok (.aload_n 0, 1) := by decide +kernel
theorem dX5_readValue_262 : decode M_X5_readValue.2.1 262 = .ok (.iconst 3, 1) := by decide +kernel
theorem dX5_readValue_263 : decode M_X5_readValue.2.1 263 = .ok (.iload_n 3, 1) := by decide +kernel
theorem dX5_readValue_264 : decode M_X5_readValue.2.1 264 = .ok (.invokevirtual 87, 3) := by decide +kernel
theorem dX5_readValue_267 : decode M_X5_readValue.2.1 267 = .ok (.return_, 1) := by decide +kernel
def L_X5_readValue_59 (X : ZX) (d n : Nat) (P : Option Value → ZSto → Prop) (x1 : Int) (x3 : Int) (x4 : Int) (x5 : Int) (x20 : Int) (σ : ZSto) : Prop := R32 x1 → R32 x3 → R32 x4 → R32 x5 → R32 x20 → ZOk n σ → Zn X M_X5_readValue d n P 59 [some (.ref (zB X + 49)), some (iV x1), none, some (iV x3), some (iV x4), some (iV x5), none, none] [iV x20] σ
def L_X5_readValue_213 (X : ZX) (d n : Nat) (P : Option Value → ZSto → Prop) (x3 : Int) (x4 : Int) (x5 : Int) (x6 : Int) (x20 : Int) (σ : ZSto) : Prop := R32 x3 → R32 x4 → R32 x5 → R32 x6 → R32 x20 → ZOk n σ → Zn X M_X5_readValue d n P 213 [some (.ref (zB X + 49)), none, none, some (iV x3), some (iV x4), some (iV x5), some (iV x6), none] [iV x20] σ
theorem w_X5_readValue {X : ZX} {d n : Nat} {P : ZSto → Prop} {x1 : Int} {x2 : Int} {σ : ZSto} (hn : 73 ≤ n)  (hx1 : R32 x1) (hx2 : R32 x2)
    (h : (∀ y1 : Int, y1 = gI σ 49 6 → ZkI X M_X5_closingBehind d n [.ref (zB X + 49), iV y1] σ (fun v4 σ5 => (v4 < gI σ5 29 1 → R32 (v4 + 1) ∧ (¬ x2 = 0 → R32 (y1 + 1) ∧ L_X5_readValue_59 X d n (zpV P) x1 y1 (y1 + 1) v4 0 (sI σ5 49 6 (v4 + 1))) ∧ (x2 = 0 → R32 (y1 + 1) ∧ L_X5_readValue_59 X d n (zpV P) x1 y1 (y1 + 1) v4 1 (sI σ5 49 6 (v4 + 1)))) ∧ (¬ (v4 < gI σ5 29 1) → ZkV X M_X5_fail d n [.ref (zB X + 49), iV 1, iV (gI σ5 29 1)] σ5 (fun σ25 => P σ25))))) :
    ZkV X M_X5_readValue (d + 1) n [.ref (zB X + 49), iV x1, iV x2] σ P := by
  refine zk_of (ls := [some (.ref (zB X + 49)), some (iV x1), some (iV x2), none, none, none, none, none]) pl_RX5 (Nat.le_of_ble_eq_true rfl) rfl (fun k0 => ?_)
  unfold Zn
  refine r_aload_n dX5_readValue_0 rfl ?_
  refine r_getI dX5_readValue_1 kf_RX5_23 (zlt hn rfl) sh_49 (Or.inl rfl) rfl ?_
  refine r_name (fun y1 e2 => ?_)
  have h3 := h y1 e2
  refine r_istore_n dX5_readValue_4 rfl rfl ?_
  refine r_iload_n dX5_readValue_5 rfl ?_
  refine r_iconst dX5_readValue_6 ?_
  refine r_iadd dX5_readValue_7 ?_
  refine r_istore dX5_readValue_8 rfl rfl ?_
  refine r_aload_n dX5_readValue_10 rfl ?_
  refine r_iload_n dX5_readValue_11 rfl ?_
  refine n_callV (N := M_X5_closingBehind) (As := [iV y1]) (st := []) dX5_readValue_12 mk_X5_closingBehind km_RX5_134 kd_X5_closingBehind rfl (zlt hn rfl) sh_49 (q := (RX5, TX5, 16)) rfl rfl (zFits_rm d n n n (Nat.le_refl n)) (Nat.le_of_ble_eq_true rfl) rfl k0 h3 ?_
  rintro _ σ5 k6 ⟨v4, rfl, h7, h8⟩
  change Zm _ _ _ _ _ _ 15 _ [iV v4] _
  refine r_istore dX5_readValue_15 rfl rfl ?_
  refine r_iload dX5_readValue_17 rfl ?_
  refine r_aload_n dX5_readValue_19 rfl ?_
  refine r_getP (a := 29) dX5_readValue_20 kf_RX5_53 (zlt hn rfl) sh_49 rfl (k6.1 _ _ _ (zlt hn rfl) p_49_0) ?_
  refine r_getI dX5_readValue_23 kf_RX5_96 (zlt hn rfl) sh_29 (Or.inl rfl) rfl ?_
  refine r_icmp_lt (t := 42) dX5_readValue_26 rfl h7 (k6.2.1 _ _) (fun c9 => ?_) (fun c10 => ?_)
  · have h11 := h8.1 c9
    refine r_aload_n dX5_readValue_42 rfl ?_
    refine r_iload dX5_readValue_43 rfl ?_
    refine r_iconst dX5_readValue_45 ?_
    refine r_iadd dX5_readValue_46 ?_
    obtain ⟨h12, h13⟩ := h11
    refine r_putI dX5_readValue_47 kf_RX5_23 (zlt hn rfl) sh_49 rfl (Or.inl rfl) ?_
    have k14 := zok_o (i := 6) (x := v4 + 1) k6 sh_49 h12
    refine r_iload_n dX5_readValue_50 rfl ?_
    refine r_if_ne (t := 58) dX5_readValue_51 rfl hx2  (fun c15 => ?_) (fun c16 => ?_)
    · have h17 := h13.1 c15
      refine r_iconst dX5_readValue_58 ?_
      obtain ⟨h18, h19⟩ := h17
      exact r_mask [true, true, false, true, true, true, false, false] rfl (h19 hx1 (by rw [e2]; exact (k0.2.1 _ _)) h18 h7 (r32c rfl) k14)
    · have h20 := h13.2 c16
      refine r_iconst dX5_readValue_54 ?_
      refine r_goto (t := 59) dX5_readValue_55 rfl ?_
      obtain ⟨h21, h22⟩ := h20
      exact r_mask [true, true, false, true, true, true, false, false] rfl (h22 hx1 (by rw [e2]; exact (k0.2.1 _ _)) h21 h7 (r32c rfl) k14)
  · have h23 := h8.2 c10
    refine r_aload_n dX5_readValue_29 rfl ?_
    refine r_iconst dX5_readValue_30 ?_
    refine r_aload_n dX5_readValue_31 rfl ?_
    refine r_getP (a := 29) dX5_readValue_32 kf_RX5_53 (zlt hn rfl) sh_49 rfl (k6.1 _ _ _ (zlt hn rfl) p_49_0) ?_
    refine r_getI dX5_readValue_35 kf_RX5_96 (zlt hn rfl) sh_29 (Or.inl rfl) rfl ?_
    refine n_callV (N := M_X5_fail) (As := [iV 1, iV (gI σ5 29 1)]) (st := []) dX5_readValue_38 mk_X5_fail km_RX5_87 kd_X5_fail rfl (zlt hn rfl) sh_49 (q := (RX5, TX5, 16)) rfl rfl (zFits_rm d n n n (Nat.le_refl n)) (Nat.le_of_ble_eq_true rfl) rfl k6 h23 ?_
    rintro _ σ25 k26 ⟨rfl, h28⟩
    change Zm _ _ _ _ _ _ 41 _ [] _
    exact r_return dX5_readValue_41 rfl ⟨k26, rfl, h28⟩
theorem b_X5_readValue_59 {X : ZX} {d n : Nat} {P : ZSto → Prop} {x1 : Int} {x3 : Int} {x4 : Int} {x5 : Int} {x20 : Int} {σ : ZSto} (hn : 73 ≤ n) 
    (h : (¬ x1 = 0 → (andI x1 112 = 0 → (andI x1 12 = 0 → (¬ x1 = 1 → ZkI X M_X1_byteAt d n [.ref (zB X + 29), iV x4] σ (fun v13 σ14 => (¬ v13 = 45 → L_X5_readValue_213 X d n (zpV P) x3 x4 x5 x20 0 σ14) ∧ (v13 = 45 → L_X5_readValue_213 X d n (zpV P) x3 x4 x5 x20 1 σ14))) ∧ (x1 = 1 → (x20 = 0 → ZkV X M_X5_fail d n [.ref (zB X + 49), iV 3, iV x3] σ (fun σ28 => P σ28)) ∧ (¬ (x20 = 0) → ZkI X M_X5_numberIn d n [.ref (zB X + 49), iV x4, iV x5] σ (fun v33 σ34 => ZkZ X M_X5_takeSize d n [.ref (zB X + 49), iV v33] σ34 (fun v38 σ39 => (v38 = 0 → ZkV X M_X5_fail d n [.ref (zB X + 49), iV 3, iV x3] σ39 (fun σ48 => P σ48)) ∧ (¬ (v38 = 0) → P σ39)))))) ∧ (¬ (andI x1 12 = 0) → (¬ x1 = 4 → ZkI X M_X5_pointIn d n [.ref (zB X + 49), iV x4, iV x5] (sI σ 49 14 2) (fun v59 σ60 => (x20 = 0 → ZkV X M_X5_fail d n [.ref (zB X + 49), iV 3, iV x3] (sI σ60 49 15 v59) (fun σ70 => P σ70)) ∧ (¬ (x20 = 0) → (¬ v59 = (-1) → P (sI σ60 49 15 v59)) ∧ (v59 = (-1) → (¬ x4 = x5 → ZkV X M_X5_fail d n [.ref (zB X + 49), iV 3, iV x3] (sI σ60 49 15 v59) (fun σ85 => P σ85)) ∧ (x4 = x5 → P (sI σ60 49 15 v59)))))) ∧ (x1 = 4 → ZkI X M_X5_pointIn d n [.ref (zB X + 49), iV x4, iV x5] (sI σ 49 14 1) (fun v93 σ94 => (x20 = 0 → ZkV X M_X5_fail d n [.ref (zB X + 49), iV 3, iV x3] (sI σ94 49 15 v93) (fun σ104 => P σ104)) ∧ (¬ (x20 = 0) → (¬ v93 = (-1) → P (sI σ94 49 15 v93)) ∧ (v93 = (-1) → (¬ x4 = x5 → ZkV X M_X5_fail d n [.ref (zB X + 49), iV 3, iV x3] (sI σ94 49 15 v93) (fun σ119 => P σ119)) ∧ (x4 = x5 → P (sI σ94 49 15 v93)))))))) ∧ (¬ (andI x1 112 = 0) → ZkI X M_X5_pointIn d n [.ref (zB X + 49), iV x4, iV x5] σ (fun v126 σ127 => ZkZ X M_X5_takeSetting d n [.ref (zB X + 49), iV x1, iV v126] σ127 (fun v131 σ132 => (¬ v131 = 0 → P σ132) ∧ (v131 = 0 → ZkV X M_X5_fail d n [.ref (zB X + 49), iV 3, iV x3] σ132 (fun σ141 => P σ141)))))) ∧ (x1 = 0 → P σ)) :
    L_X5_readValue_59 X d n (zpV P) x1 x3 x4 x5 x20 σ := by
  intro hx1 hx3 hx4 hx5 hx20 k0
  unfold Zn
  refine r_istore dX5_readValue_59 rfl rfl ?_
  refine r_iload_n dX5_readValue_61 rfl ?_
  refine r_if_ne (t := 71) dX5_readValue_62 rfl hx1  (fun c1 => ?_) (fun c2 => ?_)
  · have h3 := h.1 c1
    refine r_iload_n dX5_readValue_71 rfl ?_
    refine r_bipush dX5_readValue_72 rfl ?_
    refine r_iand dX5_readValue_74 ?_
    refine r_if_eq (t := 96) dX5_readValue_75 rfl (r32_and _ _)  (fun c4 => ?_) (fun c5 => ?_)
    · have h6 := h3.1 c4
      refine r_iload_n dX5_readValue_96 rfl ?_
      refine r_bipush dX5_readValue_97 rfl ?_
      refine r_iand dX5_readValue_99 ?_
      refine r_if_eq (t := 159) dX5_readValue_100 rfl (r32_and _ _)  (fun c7 => ?_) (fun c8 => ?_)
      · have h9 := h6.1 c7
        refine r_iload_n dX5_readValue_159 rfl ?_
        refine r_iconst dX5_readValue_160 ?_
        refine r_icmp_ne (t := 194) dX5_readValue_161 rfl hx1 (r32c rfl) (fun c10 => ?_) (fun c11 => ?_)
        · have h12 := h9.1 c10
          refine r_aload_n dX5_readValue_194 rfl ?_
          refine r_getP (a := 29) dX5_readValue_195 kf_RX5_53 (zlt hn rfl) sh_49 rfl (k0.1 _ _ _ (zlt hn rfl) p_49_0) ?_
          refine r_iload dX5_readValue_198 rfl ?_
          refine n_callV (N := M_X1_byteAt) (As := [iV x4]) (st := []) dX5_readValue_200 mk_X1_byteAt km_RX5_72 kd_X1_byteAt rfl (zlt hn rfl) sh_29 (q := (RX1, TX1, 2)) rfl rfl (zFits_rm d n n n (Nat.le_refl n)) (Nat.le_of_ble_eq_true rfl) rfl k0 h12 ?_
          rintro _ σ14 k15 ⟨v13, rfl, h16, h17⟩
          change Zm _ _ _ _ _ _ 203 _ [iV v13] _
          refine r_bipush dX5_readValue_203 rfl ?_
          refine r_icmp_ne (t := 212) dX5_readValue_205 rfl h16 (r32c rfl) (fun c18 => ?_) (fun c19 => ?_)
          · have h20 := h17.1 c18
            refine r_iconst dX5_readValue_212 ?_
            exact r_mask [true, false, false, true, true, true, true, false] rfl (h20 hx3 hx4 hx5 hx20 (r32c rfl) k15)
          · have h21 := h17.2 c19
            refine r_iconst dX5_readValue_208 ?_
            refine r_goto (t := 213) dX5_readValue_209 rfl ?_
            exact r_mask [true, false, false, true, true, true, true, false] rfl (h21 hx3 hx4 hx5 hx20 (r32c rfl) k15)
        · have h22 := h9.2 c11
          refine r_iload dX5_readValue_164 rfl ?_
          refine r_if_eq (t := 188) dX5_readValue_166 rfl hx20  (fun c23 => ?_) (fun c24 => ?_)
          · have h25 := h22.1 c23
            refine r_iconst dX5_readValue_188 ?_
            refine r_istore dX5_readValue_189 rfl rfl ?_
            refine r_goto (t := 256) dX5_readValue_191 rfl ?_
            refine r_iload dX5_readValue_256 rfl ?_
            refine r_if_ne (t := 267) dX5_readValue_258 rfl (r32c rfl)  (fun c26 => absurd c26 (by decide)) (fun _ => ?_)
            refine r_aload_n dX5_readValue_261 rfl ?_
            refine r_iconst dX5_readValue_262 ?_
            refine r_iload_n dX5_readValue_263 rfl ?_
            refine n_callV (N := M_X5_fail) (As := [iV 3, iV x3]) (st := []) dX5_readValue_264 mk_X5_fail km_RX5_87 kd_X5_fail rfl (zlt hn rfl) sh_49 (q := (RX5, TX5, 16)) rfl rfl (zFits_rm d n n n (Nat.le_refl n)) (Nat.le_of_ble_eq_true rfl) rfl k0 h25 ?_
            rintro _ σ28 k29 ⟨rfl, h31⟩
            change Zm _ _ _ _ _ _ 267 _ [] _
            exact r_return dX5_readValue_267 rfl ⟨k29, rfl, h31⟩
          · have h32 := h22.2 c24
            refine r_aload_n dX5_readValue_169 rfl ?_
            refine r_aload_n dX5_readValue_170 rfl ?_
            refine r_iload dX5_readValue_171 rfl ?_
            refine r_iload dX5_readValue_173 rfl ?_
            refine n_callV (N := M_X5_numberIn) (As := [iV x4, iV x5]) (st := [.ref (zB X + 49)]) dX5_readValue_175 mk_X5_numberIn km_RX5_144 kd_X5_numberIn rfl (zlt hn rfl) sh_49 (q := (RX5, TX5, 16)) rfl rfl (zFits_rm d n n n (Nat.le_refl n)) (Nat.le_of_ble_eq_true rfl) rfl k0 h32 ?_
            rintro _ σ34 k35 ⟨v33, rfl, h36, h37⟩
            change Zm _ _ _ _ _ _ 178 _ [iV v33, .ref (zB X + 49)] _
            refine n_callV (N := M_X5_takeSize) (As := [iV v33]) (st := []) dX5_readValue_178 mk_X5_takeSize km_RX5_147 kd_X5_takeSize rfl (zlt hn rfl) sh_49 (q := (RX5, TX5, 16)) rfl rfl (zFits_rm d n n n (Nat.le_refl n)) (Nat.le_of_ble_eq_true rfl) rfl k35 h37 ?_
            rintro _ σ39 k40 ⟨v38, rfl, h41, h42⟩
            change Zm _ _ _ _ _ _ 181 _ [iV v38] _
            refine r_if_eq (t := 188) dX5_readValue_181 rfl (r32_z h41)  (fun c43 => ?_) (fun c44 => ?_)
            · have h45 := h42.1 c43
              refine r_iconst dX5_readValue_188 ?_
              refine r_istore dX5_readValue_189 rfl rfl ?_
              refine r_goto (t := 256) dX5_readValue_191 rfl ?_
              refine r_iload dX5_readValue_256 rfl ?_
              refine r_if_ne (t := 267) dX5_readValue_258 rfl (r32c rfl)  (fun c46 => absurd c46 (by decide)) (fun _ => ?_)
              refine r_aload_n dX5_readValue_261 rfl ?_
              refine r_iconst dX5_readValue_262 ?_
              refine r_iload_n dX5_readValue_263 rfl ?_
              refine n_callV (N := M_X5_fail) (As := [iV 3, iV x3]) (st := []) dX5_readValue_264 mk_X5_fail km_RX5_87 kd_X5_fail rfl (zlt hn rfl) sh_49 (q := (RX5, TX5, 16)) rfl rfl (zFits_rm d n n n (Nat.le_refl n)) (Nat.le_of_ble_eq_true rfl) rfl k40 h45 ?_
              rintro _ σ48 k49 ⟨rfl, h51⟩
              change Zm _ _ _ _ _ _ 267 _ [] _
              exact r_return dX5_readValue_267 rfl ⟨k49, rfl, h51⟩
            · have h52 := h42.2 c44
              refine r_iconst dX5_readValue_184 ?_
              refine r_goto (t := 189) dX5_readValue_185 rfl ?_
              refine r_istore dX5_readValue_189 rfl rfl ?_
              refine r_goto (t := 256) dX5_readValue_191 rfl ?_
              refine r_iload dX5_readValue_256 rfl ?_
              refine r_if_ne (t := 267) dX5_readValue_258 rfl (r32c rfl)  (fun _ => ?_) (fun c53 => absurd c53 (by decide))
              exact r_return dX5_readValue_267 rfl ⟨k40, rfl, h52⟩
      · have h54 := h6.2 c8
        refine r_aload_n dX5_readValue_103 rfl ?_
        refine r_iload_n dX5_readValue_104 rfl ?_
        refine r_iconst dX5_readValue_105 ?_
        refine r_icmp_ne (t := 113) dX5_readValue_106 rfl hx1 (r32c rfl) (fun c55 => ?_) (fun c56 => ?_)
        · have h57 := h54.1 c55
          refine r_iconst dX5_readValue_113 ?_
          refine r_putI dX5_readValue_114 kf_RX5_47 (zlt hn rfl) sh_49 rfl (Or.inl rfl) ?_
          have k58 := zok_o (i := 14) (x := 2) k0 sh_49 (r32c rfl)
          refine r_aload_n dX5_readValue_117 rfl ?_
          refine r_aload_n dX5_readValue_118 rfl ?_
          refine r_iload dX5_readValue_119 rfl ?_
          refine r_iload dX5_readValue_121 rfl ?_
          refine n_callV (N := M_X5_pointIn) (As := [iV x4, iV x5]) (st := [.ref (zB X + 49)]) dX5_readValue_123 mk_X5_pointIn km_RX5_137 kd_X5_pointIn rfl (zlt hn rfl) sh_49 (q := (RX5, TX5, 16)) rfl rfl (zFits_rm d n n n (Nat.le_refl n)) (Nat.le_of_ble_eq_true rfl) rfl k58 h57 ?_
          rintro _ σ60 k61 ⟨v59, rfl, h62, h63⟩
          change Zm _ _ _ _ _ _ 126 _ [iV v59, .ref (zB X + 49)] _
          refine r_putI dX5_readValue_126 kf_RX5_50 (zlt hn rfl) sh_49 rfl (Or.inl rfl) ?_
          have k64 := zok_o (i := 15) (x := v59) k61 sh_49 h62
          refine r_iload dX5_readValue_129 rfl ?_
          refine r_if_eq (t := 153) dX5_readValue_131 rfl hx20  (fun c65 => ?_) (fun c66 => ?_)
          · have h67 := h63.1 c65
            refine r_iconst dX5_readValue_153 ?_
            refine r_istore dX5_readValue_154 rfl rfl ?_
            refine r_goto (t := 256) dX5_readValue_156 rfl ?_
            refine r_iload dX5_readValue_256 rfl ?_
            refine r_if_ne (t := 267) dX5_readValue_258 rfl (r32c rfl)  (fun c68 => absurd c68 (by decide)) (fun _ => ?_)
            refine r_aload_n dX5_readValue_261 rfl ?_
            refine r_iconst dX5_readValue_262 ?_
            refine r_iload_n dX5_readValue_263 rfl ?_
            refine n_callV (N := M_X5_fail) (As := [iV 3, iV x3]) (st := []) dX5_readValue_264 mk_X5_fail km_RX5_87 kd_X5_fail rfl (zlt hn rfl) sh_49 (q := (RX5, TX5, 16)) rfl rfl (zFits_rm d n n n (Nat.le_refl n)) (Nat.le_of_ble_eq_true rfl) rfl k64 h67 ?_
            rintro _ σ70 k71 ⟨rfl, h73⟩
            change Zm _ _ _ _ _ _ 267 _ [] _
            exact r_return dX5_readValue_267 rfl ⟨k71, rfl, h73⟩
          · have h74 := h63.2 c66
            refine r_aload_n dX5_readValue_134 rfl ?_
            refine r_getI dX5_readValue_135 kf_RX5_50 (zlt hn rfl) sh_49 (Or.inl rfl) (gI_same _ _ _ _) ?_
            refine r_iconst dX5_readValue_138 ?_
            refine r_icmp_ne (t := 149) dX5_readValue_139 rfl h62 (r32c rfl) (fun c75 => ?_) (fun c76 => ?_)
            · have h77 := h74.1 c75
              refine r_iconst dX5_readValue_149 ?_
              refine r_goto (t := 154) dX5_readValue_150 rfl ?_
              refine r_istore dX5_readValue_154 rfl rfl ?_
              refine r_goto (t := 256) dX5_readValue_156 rfl ?_
              refine r_iload dX5_readValue_256 rfl ?_
              refine r_if_ne (t := 267) dX5_readValue_258 rfl (r32c rfl)  (fun _ => ?_) (fun c78 => absurd c78 (by decide))
              exact r_return dX5_readValue_267 rfl ⟨k64, rfl, h77⟩
            · have h79 := h74.2 c76
              refine r_iload dX5_readValue_142 rfl ?_
              refine r_iload dX5_readValue_144 rfl ?_
              refine r_icmp_ne (t := 153) dX5_readValue_146 rfl hx4 hx5 (fun c80 => ?_) (fun c81 => ?_)
              · have h82 := h79.1 c80
                refine r_iconst dX5_readValue_153 ?_
                refine r_istore dX5_readValue_154 rfl rfl ?_
                refine r_goto (t := 256) dX5_readValue_156 rfl ?_
                refine r_iload dX5_readValue_256 rfl ?_
                refine r_if_ne (t := 267) dX5_readValue_258 rfl (r32c rfl)  (fun c83 => absurd c83 (by decide)) (fun _ => ?_)
                refine r_aload_n dX5_readValue_261 rfl ?_
                refine r_iconst dX5_readValue_262 ?_
                refine r_iload_n dX5_readValue_263 rfl ?_
                refine n_callV (N := M_X5_fail) (As := [iV 3, iV x3]) (st := []) dX5_readValue_264 mk_X5_fail km_RX5_87 kd_X5_fail rfl (zlt hn rfl) sh_49 (q := (RX5, TX5, 16)) rfl rfl (zFits_rm d n n n (Nat.le_refl n)) (Nat.le_of_ble_eq_true rfl) rfl k64 h82 ?_
                rintro _ σ85 k86 ⟨rfl, h88⟩
                change Zm _ _ _ _ _ _ 267 _ [] _
                exact r_return dX5_readValue_267 rfl ⟨k86, rfl, h88⟩
              · have h89 := h79.2 c81
                refine r_iconst dX5_readValue_149 ?_
                refine r_goto (t := 154) dX5_readValue_150 rfl ?_
                refine r_istore dX5_readValue_154 rfl rfl ?_
                refine r_goto (t := 256) dX5_readValue_156 rfl ?_
                refine r_iload dX5_readValue_256 rfl ?_
                refine r_if_ne (t := 267) dX5_readValue_258 rfl (r32c rfl)  (fun _ => ?_) (fun c90 => absurd c90 (by decide))
                exact r_return dX5_readValue_267 rfl ⟨k64, rfl, h89⟩
        · have h91 := h54.2 c56
          refine r_iconst dX5_readValue_109 ?_
          refine r_goto (t := 114) dX5_readValue_110 rfl ?_
          refine r_putI dX5_readValue_114 kf_RX5_47 (zlt hn rfl) sh_49 rfl (Or.inl rfl) ?_
          have k92 := zok_o (i := 14) (x := 1) k0 sh_49 (r32c rfl)
          refine r_aload_n dX5_readValue_117 rfl ?_
          refine r_aload_n dX5_readValue_118 rfl ?_
          refine r_iload dX5_readValue_119 rfl ?_
          refine r_iload dX5_readValue_121 rfl ?_
          refine n_callV (N := M_X5_pointIn) (As := [iV x4, iV x5]) (st := [.ref (zB X + 49)]) dX5_readValue_123 mk_X5_pointIn km_RX5_137 kd_X5_pointIn rfl (zlt hn rfl) sh_49 (q := (RX5, TX5, 16)) rfl rfl (zFits_rm d n n n (Nat.le_refl n)) (Nat.le_of_ble_eq_true rfl) rfl k92 h91 ?_
          rintro _ σ94 k95 ⟨v93, rfl, h96, h97⟩
          change Zm _ _ _ _ _ _ 126 _ [iV v93, .ref (zB X + 49)] _
          refine r_putI dX5_readValue_126 kf_RX5_50 (zlt hn rfl) sh_49 rfl (Or.inl rfl) ?_
          have k98 := zok_o (i := 15) (x := v93) k95 sh_49 h96
          refine r_iload dX5_readValue_129 rfl ?_
          refine r_if_eq (t := 153) dX5_readValue_131 rfl hx20  (fun c99 => ?_) (fun c100 => ?_)
          · have h101 := h97.1 c99
            refine r_iconst dX5_readValue_153 ?_
            refine r_istore dX5_readValue_154 rfl rfl ?_
            refine r_goto (t := 256) dX5_readValue_156 rfl ?_
            refine r_iload dX5_readValue_256 rfl ?_
            refine r_if_ne (t := 267) dX5_readValue_258 rfl (r32c rfl)  (fun c102 => absurd c102 (by decide)) (fun _ => ?_)
            refine r_aload_n dX5_readValue_261 rfl ?_
            refine r_iconst dX5_readValue_262 ?_
            refine r_iload_n dX5_readValue_263 rfl ?_
            refine n_callV (N := M_X5_fail) (As := [iV 3, iV x3]) (st := []) dX5_readValue_264 mk_X5_fail km_RX5_87 kd_X5_fail rfl (zlt hn rfl) sh_49 (q := (RX5, TX5, 16)) rfl rfl (zFits_rm d n n n (Nat.le_refl n)) (Nat.le_of_ble_eq_true rfl) rfl k98 h101 ?_
            rintro _ σ104 k105 ⟨rfl, h107⟩
            change Zm _ _ _ _ _ _ 267 _ [] _
            exact r_return dX5_readValue_267 rfl ⟨k105, rfl, h107⟩
          · have h108 := h97.2 c100
            refine r_aload_n dX5_readValue_134 rfl ?_
            refine r_getI dX5_readValue_135 kf_RX5_50 (zlt hn rfl) sh_49 (Or.inl rfl) (gI_same _ _ _ _) ?_
            refine r_iconst dX5_readValue_138 ?_
            refine r_icmp_ne (t := 149) dX5_readValue_139 rfl h96 (r32c rfl) (fun c109 => ?_) (fun c110 => ?_)
            · have h111 := h108.1 c109
              refine r_iconst dX5_readValue_149 ?_
              refine r_goto (t := 154) dX5_readValue_150 rfl ?_
              refine r_istore dX5_readValue_154 rfl rfl ?_
              refine r_goto (t := 256) dX5_readValue_156 rfl ?_
              refine r_iload dX5_readValue_256 rfl ?_
              refine r_if_ne (t := 267) dX5_readValue_258 rfl (r32c rfl)  (fun _ => ?_) (fun c112 => absurd c112 (by decide))
              exact r_return dX5_readValue_267 rfl ⟨k98, rfl, h111⟩
            · have h113 := h108.2 c110
              refine r_iload dX5_readValue_142 rfl ?_
              refine r_iload dX5_readValue_144 rfl ?_
              refine r_icmp_ne (t := 153) dX5_readValue_146 rfl hx4 hx5 (fun c114 => ?_) (fun c115 => ?_)
              · have h116 := h113.1 c114
                refine r_iconst dX5_readValue_153 ?_
                refine r_istore dX5_readValue_154 rfl rfl ?_
                refine r_goto (t := 256) dX5_readValue_156 rfl ?_
                refine r_iload dX5_readValue_256 rfl ?_
                refine r_if_ne (t := 267) dX5_readValue_258 rfl (r32c rfl)  (fun c117 => absurd c117 (by decide)) (fun _ => ?_)
                refine r_aload_n dX5_readValue_261 rfl ?_
                refine r_iconst dX5_readValue_262 ?_
                refine r_iload_n dX5_readValue_263 rfl ?_
                refine n_callV (N := M_X5_fail) (As := [iV 3, iV x3]) (st := []) dX5_readValue_264 mk_X5_fail km_RX5_87 kd_X5_fail rfl (zlt hn rfl) sh_49 (q := (RX5, TX5, 16)) rfl rfl (zFits_rm d n n n (Nat.le_refl n)) (Nat.le_of_ble_eq_true rfl) rfl k98 h116 ?_
                rintro _ σ119 k120 ⟨rfl, h122⟩
                change Zm _ _ _ _ _ _ 267 _ [] _
                exact r_return dX5_readValue_267 rfl ⟨k120, rfl, h122⟩
              · have h123 := h113.2 c115
                refine r_iconst dX5_readValue_149 ?_
                refine r_goto (t := 154) dX5_readValue_150 rfl ?_
                refine r_istore dX5_readValue_154 rfl rfl ?_
                refine r_goto (t := 256) dX5_readValue_156 rfl ?_
                refine r_iload dX5_readValue_256 rfl ?_
                refine r_if_ne (t := 267) dX5_readValue_258 rfl (r32c rfl)  (fun _ => ?_) (fun c124 => absurd c124 (by decide))
                exact r_return dX5_readValue_267 rfl ⟨k98, rfl, h123⟩
    · have h125 := h3.2 c5
      refine r_aload_n dX5_readValue_78 rfl ?_
      refine r_iload_n dX5_readValue_79 rfl ?_
      refine r_aload_n dX5_readValue_80 rfl ?_
      refine r_iload dX5_readValue_81 rfl ?_
      refine r_iload dX5_readValue_83 rfl ?_
      refine n_callV (N := M_X5_pointIn) (As := [iV x4, iV x5]) (st := [iV x1, .ref (zB X + 49)]) dX5_readValue_85 mk_X5_pointIn km_RX5_137 kd_X5_pointIn rfl (zlt hn rfl) sh_49 (q := (RX5, TX5, 16)) rfl rfl (zFits_rm d n n n (Nat.le_refl n)) (Nat.le_of_ble_eq_true rfl) rfl k0 h125 ?_
      rintro _ σ127 k128 ⟨v126, rfl, h129, h130⟩
      change Zm _ _ _ _ _ _ 88 _ [iV v126, iV x1, .ref (zB X + 49)] _
      refine n_callV (N := M_X5_takeSetting) (As := [iV x1, iV v126]) (st := []) dX5_readValue_88 mk_X5_takeSetting km_RX5_140 kd_X5_takeSetting rfl (zlt hn rfl) sh_49 (q := (RX5, TX5, 16)) rfl rfl (zFits_rm d n n n (Nat.le_refl n)) (Nat.le_of_ble_eq_true rfl) rfl k128 h130 ?_
      rintro _ σ132 k133 ⟨v131, rfl, h134, h135⟩
      change Zm _ _ _ _ _ _ 91 _ [iV v131] _
      refine r_istore dX5_readValue_91 rfl rfl ?_
      refine r_goto (t := 256) dX5_readValue_93 rfl ?_
      refine r_iload dX5_readValue_256 rfl ?_
      refine r_if_ne (t := 267) dX5_readValue_258 rfl (r32_z h134)  (fun c136 => ?_) (fun c137 => ?_)
      · have h138 := h135.1 c136
        exact r_return dX5_readValue_267 rfl ⟨k133, rfl, h138⟩
      · have h139 := h135.2 c137
        refine r_aload_n dX5_readValue_261 rfl ?_
        refine r_iconst dX5_readValue_262 ?_
        refine r_iload_n dX5_readValue_263 rfl ?_
        refine n_callV (N := M_X5_fail) (As := [iV 3, iV x3]) (st := []) dX5_readValue_264 mk_X5_fail km_RX5_87 kd_X5_fail rfl (zlt hn rfl) sh_49 (q := (RX5, TX5, 16)) rfl rfl (zFits_rm d n n n (Nat.le_refl n)) (Nat.le_of_ble_eq_true rfl) rfl k133 h139 ?_
        rintro _ σ141 k142 ⟨rfl, h144⟩
        change Zm _ _ _ _ _ _ 267 _ [] _
        exact r_return dX5_readValue_267 rfl ⟨k142, rfl, h144⟩
  · have h145 := h.2 c2
    refine r_iconst dX5_readValue_65 ?_
    refine r_istore dX5_readValue_66 rfl rfl ?_
    refine r_goto (t := 256) dX5_readValue_68 rfl ?_
    refine r_iload dX5_readValue_256 rfl ?_
    refine r_if_ne (t := 267) dX5_readValue_258 rfl (r32c rfl)  (fun _ => ?_) (fun c146 => absurd c146 (by decide))
    exact r_return dX5_readValue_267 rfl ⟨k0, rfl, h145⟩
theorem b_X5_readValue_213 {X : ZX} {d n : Nat} {P : ZSto → Prop} {x3 : Int} {x4 : Int} {x5 : Int} {x6 : Int} {x20 : Int} {σ : ZSto} (hn : 73 ≤ n) 
    (h : (x6 = 0 → ZkV X M_X5_fail d n [.ref (zB X + 49), iV 3, iV x3] σ (fun σ6 => P σ6)) ∧ (¬ (x6 = 0) → (x20 = 0 → ZkI X M_X5_numberIn d n [.ref (zB X + 49), iV x4, iV x5] σ (fun v14 σ15 => ZkZ X M_X5_takeKomi d n [.ref (zB X + 49), iV v14, iV x20] σ15 (fun v19 σ20 => (v19 = 0 → ZkV X M_X5_fail d n [.ref (zB X + 49), iV 3, iV x3] σ20 (fun σ29 => P σ29)) ∧ (¬ (v19 = 0) → P σ20)))) ∧ (¬ (x20 = 0) → ZkI X M_X5_numberIn d n [.ref (zB X + 49), iV (x4 + 1), iV x5] σ (fun v36 σ37 => ZkZ X M_X5_takeKomi d n [.ref (zB X + 49), iV v36, iV x20] σ37 (fun v41 σ42 => (v41 = 0 → ZkV X M_X5_fail d n [.ref (zB X + 49), iV 3, iV x3] σ42 (fun σ51 => P σ51)) ∧ (¬ (v41 = 0) → P σ42)))))) :
    L_X5_readValue_213 X d n (zpV P) x3 x4 x5 x6 x20 σ := by
  intro hx3 hx4 hx5 hx6 hx20 k0
  unfold Zn
  refine r_istore dX5_readValue_213 rfl rfl ?_
  refine r_iload dX5_readValue_215 rfl ?_
  refine r_if_eq (t := 253) dX5_readValue_217 rfl hx6  (fun c1 => ?_) (fun c2 => ?_)
  · have h3 := h.1 c1
    refine r_iconst dX5_readValue_253 ?_
    refine r_istore dX5_readValue_254 rfl rfl ?_
    refine r_iload dX5_readValue_256 rfl ?_
    refine r_if_ne (t := 267) dX5_readValue_258 rfl (r32c rfl)  (fun c4 => absurd c4 (by decide)) (fun _ => ?_)
    refine r_aload_n dX5_readValue_261 rfl ?_
    refine r_iconst dX5_readValue_262 ?_
    refine r_iload_n dX5_readValue_263 rfl ?_
    refine n_callV (N := M_X5_fail) (As := [iV 3, iV x3]) (st := []) dX5_readValue_264 mk_X5_fail km_RX5_87 kd_X5_fail rfl (zlt hn rfl) sh_49 (q := (RX5, TX5, 16)) rfl rfl (zFits_rm d n n n (Nat.le_refl n)) (Nat.le_of_ble_eq_true rfl) rfl k0 h3 ?_
    rintro _ σ6 k7 ⟨rfl, h9⟩
    change Zm _ _ _ _ _ _ 267 _ [] _
    exact r_return dX5_readValue_267 rfl ⟨k7, rfl, h9⟩
  · have h10 := h.2 c2
    refine r_aload_n dX5_readValue_220 rfl ?_
    refine r_aload_n dX5_readValue_221 rfl ?_
    refine r_iload dX5_readValue_222 rfl ?_
    refine r_if_eq (t := 234) dX5_readValue_224 rfl hx20  (fun c11 => ?_) (fun c12 => ?_)
    · have h13 := h10.1 c11
      refine r_iload dX5_readValue_234 rfl ?_
      refine r_iload dX5_readValue_236 rfl ?_
      refine n_callV (N := M_X5_numberIn) (As := [iV x4, iV x5]) (st := [.ref (zB X + 49)]) dX5_readValue_238 mk_X5_numberIn km_RX5_144 kd_X5_numberIn rfl (zlt hn rfl) sh_49 (q := (RX5, TX5, 16)) rfl rfl (zFits_rm d n n n (Nat.le_refl n)) (Nat.le_of_ble_eq_true rfl) rfl k0 h13 ?_
      rintro _ σ15 k16 ⟨v14, rfl, h17, h18⟩
      change Zm _ _ _ _ _ _ 241 _ [iV v14, .ref (zB X + 49)] _
      refine r_iload dX5_readValue_241 rfl ?_
      refine n_callV (N := M_X5_takeKomi) (As := [iV v14, iV x20]) (st := []) dX5_readValue_243 mk_X5_takeKomi km_RX5_150 kd_X5_takeKomi rfl (zlt hn rfl) sh_49 (q := (RX5, TX5, 16)) rfl rfl (zFits_rm d n n n (Nat.le_refl n)) (Nat.le_of_ble_eq_true rfl) rfl k16 h18 ?_
      rintro _ σ20 k21 ⟨v19, rfl, h22, h23⟩
      change Zm _ _ _ _ _ _ 246 _ [iV v19] _
      refine r_if_eq (t := 253) dX5_readValue_246 rfl (r32_z h22)  (fun c24 => ?_) (fun c25 => ?_)
      · have h26 := h23.1 c24
        refine r_iconst dX5_readValue_253 ?_
        refine r_istore dX5_readValue_254 rfl rfl ?_
        refine r_iload dX5_readValue_256 rfl ?_
        refine r_if_ne (t := 267) dX5_readValue_258 rfl (r32c rfl)  (fun c27 => absurd c27 (by decide)) (fun _ => ?_)
        refine r_aload_n dX5_readValue_261 rfl ?_
        refine r_iconst dX5_readValue_262 ?_
        refine r_iload_n dX5_readValue_263 rfl ?_
        refine n_callV (N := M_X5_fail) (As := [iV 3, iV x3]) (st := []) dX5_readValue_264 mk_X5_fail km_RX5_87 kd_X5_fail rfl (zlt hn rfl) sh_49 (q := (RX5, TX5, 16)) rfl rfl (zFits_rm d n n n (Nat.le_refl n)) (Nat.le_of_ble_eq_true rfl) rfl k21 h26 ?_
        rintro _ σ29 k30 ⟨rfl, h32⟩
        change Zm _ _ _ _ _ _ 267 _ [] _
        exact r_return dX5_readValue_267 rfl ⟨k30, rfl, h32⟩
      · have h33 := h23.2 c25
        refine r_iconst dX5_readValue_249 ?_
        refine r_goto (t := 254) dX5_readValue_250 rfl ?_
        refine r_istore dX5_readValue_254 rfl rfl ?_
        refine r_iload dX5_readValue_256 rfl ?_
        refine r_if_ne (t := 267) dX5_readValue_258 rfl (r32c rfl)  (fun _ => ?_) (fun c34 => absurd c34 (by decide))
        exact r_return dX5_readValue_267 rfl ⟨k21, rfl, h33⟩
    · have h35 := h10.2 c12
      refine r_iload dX5_readValue_227 rfl ?_
      refine r_iconst dX5_readValue_229 ?_
      refine r_iadd dX5_readValue_230 ?_
      refine r_goto (t := 236) dX5_readValue_231 rfl ?_
      refine r_iload dX5_readValue_236 rfl ?_
      refine n_callV (N := M_X5_numberIn) (As := [iV (x4 + 1), iV x5]) (st := [.ref (zB X + 49)]) dX5_readValue_238 mk_X5_numberIn km_RX5_144 kd_X5_numberIn rfl (zlt hn rfl) sh_49 (q := (RX5, TX5, 16)) rfl rfl (zFits_rm d n n n (Nat.le_refl n)) (Nat.le_of_ble_eq_true rfl) rfl k0 h35 ?_
      rintro _ σ37 k38 ⟨v36, rfl, h39, h40⟩
      change Zm _ _ _ _ _ _ 241 _ [iV v36, .ref (zB X + 49)] _
      refine r_iload dX5_readValue_241 rfl ?_
      refine n_callV (N := M_X5_takeKomi) (As := [iV v36, iV x20]) (st := []) dX5_readValue_243 mk_X5_takeKomi km_RX5_150 kd_X5_takeKomi rfl (zlt hn rfl) sh_49 (q := (RX5, TX5, 16)) rfl rfl (zFits_rm d n n n (Nat.le_refl n)) (Nat.le_of_ble_eq_true rfl) rfl k38 h40 ?_
      rintro _ σ42 k43 ⟨v41, rfl, h44, h45⟩
      change Zm _ _ _ _ _ _ 246 _ [iV v41] _
      refine r_if_eq (t := 253) dX5_readValue_246 rfl (r32_z h44)  (fun c46 => ?_) (fun c47 => ?_)
      · have h48 := h45.1 c46
        refine r_iconst dX5_readValue_253 ?_
        refine r_istore dX5_readValue_254 rfl rfl ?_
        refine r_iload dX5_readValue_256 rfl ?_
        refine r_if_ne (t := 267) dX5_readValue_258 rfl (r32c rfl)  (fun c49 => absurd c49 (by decide)) (fun _ => ?_)
        refine r_aload_n dX5_readValue_261 rfl ?_
        refine r_iconst dX5_readValue_262 ?_
        refine r_iload_n dX5_readValue_263 rfl ?_
        refine n_callV (N := M_X5_fail) (As := [iV 3, iV x3]) (st := []) dX5_readValue_264 mk_X5_fail km_RX5_87 kd_X5_fail rfl (zlt hn rfl) sh_49 (q := (RX5, TX5, 16)) rfl rfl (zFits_rm d n n n (Nat.le_refl n)) (Nat.le_of_ble_eq_true rfl) rfl k43 h48 ?_
        rintro _ σ51 k52 ⟨rfl, h54⟩
        change Zm _ _ _ _ _ _ 267 _ [] _
        exact r_return dX5_readValue_267 rfl ⟨k52, rfl, h54⟩
      · have h55 := h45.2 c47
        refine r_iconst dX5_readValue_249 ?_
        refine r_goto (t := 254) dX5_readValue_250 rfl ?_
        refine r_istore dX5_readValue_254 rfl rfl ?_
        refine r_iload dX5_readValue_256 rfl ?_
        refine r_if_ne (t := 267) dX5_readValue_258 rfl (r32c rfl)  (fun _ => ?_) (fun c56 => absurd c56 (by decide))
        exact r_return dX5_readValue_267 rfl ⟨k43, rfl, h55⟩
/-! StoneRoom$Reader.closingBehind -/
theorem dX5_closingBehind_0 : decode M_X5_closingBehind.2.1 0 = .ok (.iload_n 1, 1) := by decide +kernel
theorem dX5_closingBehind_1 : decode M_X5_closingBehind.2.1 1 = .ok (.iconst 1, 1) := by decide +kernel
theorem dX5_closingBehind_2 : decode M_X5_closingBehind.2.1 2 = .ok (.iadd, 1) := by decide +kernel
theorem dX5_closingBehind_3 : decode M_X5_closingBehind.2.1 3 = .ok (.istore_n 2, 1) := by decide +kernel
theorem dX5_closingBehind_4 : decode M_X5_closingBehind.2.1 4 = .ok (.iload_n 2, 1) := by decide +kernel
theorem dX5_closingBehind_5 : decode M_X5_closingBehind.2.1 5 = .ok (.aload_n 0, 1) := by decide +kernel
theorem dX5_closingBehind_6 : decode M_X5_closingBehind.2.1 6 = .ok (.getfield 53, 3) := by decide +kernel
theorem dX5_closingBehind_9 : decode M_X5_closingBehind.2.1 9 = .ok (.getfield 96, 3) := by decide +kernel
theorem dX5_closingBehind_12 : decode M_X5_closingBehind.2.1 12 = .ok (.if_icmp .ge 40, 3) := by decide +kernel
theorem dX5_closingBehind_15 : decode M_X5_closingBehind.2.1 15 = .ok (.aload_n 0, 1) := by decide +kernel
theorem dX5_closingBehind_16 : decode M_X5_closingBehind.2.1 16 = .ok (.getfield 53, 3) := by decide +kernel
theorem dX5_closingBehind_19 : decode M_X5_closingBehind.2.1 19 = .ok (.iload_n 2, 1) := by decide +kernel
theorem dX5_closingBehind_20 : decode M_X5_closingBehind.2.1 20 = .ok (.invokevirtual 72, 3) := by decide +kernel
theorem dX5_closingBehind_23 : decode M_X5_closingBehind.2.1 23 = .ok (.bipush 93, 2) := by decide +kernel
theorem dX5_closingBehind_25 : decode M_X5_closingBehind.2.1 25 = .ok (.if_icmp .eq 27, 3) := by decide +kernel
theorem dX5_closingBehind_28 : decode M_X5_closingBehind.2.1 28 = .ok (.iload_n 2, 1) := by decide +kernel
theorem dX5_closingBehind_29 : decode M_X5_closingBehind.2.1 29 = .ok (.aload_n 0, 1) := by decide +kernel
theorem dX5_closingBehind_30 : decode M_X5_closingBehind.2.1 30 = .ok (.getfield 53, 3) := by decide +kernel
theorem dX5_closingBehind_33 : decode M_X5_closingBehind.2.1 33 = .ok (.iload_n 2, 1) := by decide +kernel
theorem dX5_closingBehind_34 : decode M_X5_closingBehind.2.1 34 = .ok (.invokevirtual 72, 3) := by decide +kernel
theorem dX5_closingBehind_37 : decode M_X5_closingBehind.2.1 37 = .ok (.bipush 92, 2) := by decide +kernel
theorem dX5_closingBehind_39 : decode M_X5_closingBehind.2.1 39 = .ok (.if_icmp .ne 7, 3) := by decide +kernel
theorem dX5_closingBehind_42 : decode M_X5_closingBehind.2.1 42 = .ok (.iconst 2, 1) := by decide +kernel
theorem dX5_closingBehind_43 : decode M_X5_closingBehind.2.1 43 = .ok (.goto 4, 3) := by decide +kernel
theorem dX5_closingBehind_46 : decode M_X5_closingBehind.2.1 46 = .ok (.iconst 1, 1) := by decide +kernel
theorem dX5_closingBehind_47 : decode M_X5_closingBehind.2.1 47 = .ok (.iadd, 1) := by decide +kernel
theorem dX5_closingBehind_48 : decode M_X5_closingBehind.2.1 48 = .ok (.istore_n 2, 1) := by decide +kernel
theorem dX5_closingBehind_49 : decode M_X5_closingBehind.2.1 49 = .ok (.goto (-45), 3) := by decide +kernel
theorem dX5_closingBehind_52 : decode M_X5_closingBehind.2.1 52 = .ok (.iload_n 2, 1) := by decide +kernel
theorem dX5_closingBehind_53 : decode M_X5_closingBehind.2.1 53 = .ok (.ireturn, 1) := by decide +kernel
def L_X5_closingBehind_4 (X : ZX) (d n : Nat) (P : Option Value → ZSto → Prop) (x2 : Int) (σ : ZSto) : Prop := R32 x2 → ZOk n σ → Zn X M_X5_closingBehind d n P 4 [some (.ref (zB X + 49)), none, some (iV x2)] [] σ
theorem w_X5_closingBehind {X : ZX} {d n : Nat} {P : Int → ZSto → Prop} {x1 : Int} {σ : ZSto} (hn : 73 ≤ n)  (hx1 : R32 x1)
    (h : R32 (x1 + 1) ∧ L_X5_closingBehind_4 X d n (zpI P) (x1 + 1) σ) :
    ZkI X M_X5_closingBehind (d + 1) n [.ref (zB X + 49), iV x1] σ P := by
  refine zk_of (ls := [some (.ref (zB X + 49)), some (iV x1), none]) pl_RX5 (Nat.le_of_ble_eq_true rfl) rfl (fun k0 => ?_)
  unfold Zn
  refine r_iload_n dX5_closingBehind_0 rfl ?_
  refine r_iconst dX5_closingBehind_1 ?_
  refine r_iadd dX5_closingBehind_2 ?_
  refine r_istore_n dX5_closingBehind_3 rfl rfl ?_
  obtain ⟨h1, h2⟩ := h
  exact r_mask [true, false, true] rfl (h2 h1 k0)
theorem b_X5_closingBehind_4 {X : ZX} {d n : Nat} {P : Int → ZSto → Prop} {x2 : Int} {σ : ZSto} (hn : 73 ≤ n) 
    (h : (gI σ 29 1 ≤ x2 → P x2 σ) ∧ (¬ (gI σ 29 1 ≤ x2) → ZkI X M_X1_byteAt d n [.ref (zB X + 29), iV x2] σ (fun v5 σ6 => (v5 = 93 → P x2 σ6) ∧ (¬ (v5 = 93) → ZkI X M_X1_byteAt d n [.ref (zB X + 29), iV x2] σ6 (fun v14 σ15 => (¬ v14 = 92 → R32 (x2 + 1) ∧ L_X5_closingBehind_4 X d n (zpI P) (x2 + 1) σ15) ∧ (v14 = 92 → R32 (x2 + 2) ∧ L_X5_closingBehind_4 X d n (zpI P) (x2 + 2) σ15)))))) :
    L_X5_closingBehind_4 X d n (zpI P) x2 σ := by
  intro hx2 k0
  unfold Zn
  refine r_iload_n dX5_closingBehind_4 rfl ?_
  refine r_aload_n dX5_closingBehind_5 rfl ?_
  refine r_getP (a := 29) dX5_closingBehind_6 kf_RX5_53 (zlt hn rfl) sh_49 rfl (k0.1 _ _ _ (zlt hn rfl) p_49_0) ?_
  refine r_getI dX5_closingBehind_9 kf_RX5_96 (zlt hn rfl) sh_29 (Or.inl rfl) rfl ?_
  refine r_icmp_ge (t := 52) dX5_closingBehind_12 rfl hx2 (k0.2.1 _ _) (fun c1 => ?_) (fun c2 => ?_)
  · have h3 := h.1 c1
    refine r_iload_n dX5_closingBehind_52 rfl ?_
    exact r_ireturn dX5_closingBehind_53 rfl ⟨k0, _, rfl, hx2, h3⟩
  · have h4 := h.2 c2
    refine r_aload_n dX5_closingBehind_15 rfl ?_
    refine r_getP (a := 29) dX5_closingBehind_16 kf_RX5_53 (zlt hn rfl) sh_49 rfl (k0.1 _ _ _ (zlt hn rfl) p_49_0) ?_
    refine r_iload_n dX5_closingBehind_19 rfl ?_
    refine n_callV (N := M_X1_byteAt) (As := [iV x2]) (st := []) dX5_closingBehind_20 mk_X1_byteAt km_RX5_72 kd_X1_byteAt rfl (zlt hn rfl) sh_29 (q := (RX1, TX1, 2)) rfl rfl (zFits_rm d n n n (Nat.le_refl n)) (Nat.le_of_ble_eq_true rfl) rfl k0 h4 ?_
    rintro _ σ6 k7 ⟨v5, rfl, h8, h9⟩
    change Zm _ _ _ _ _ _ 23 _ [iV v5] _
    refine r_bipush dX5_closingBehind_23 rfl ?_
    refine r_icmp_eq (t := 52) dX5_closingBehind_25 rfl h8 (r32c rfl) (fun c10 => ?_) (fun c11 => ?_)
    · have h12 := h9.1 c10
      refine r_iload_n dX5_closingBehind_52 rfl ?_
      exact r_ireturn dX5_closingBehind_53 rfl ⟨k7, _, rfl, hx2, h12⟩
    · have h13 := h9.2 c11
      refine r_iload_n dX5_closingBehind_28 rfl ?_
      refine r_aload_n dX5_closingBehind_29 rfl ?_
      refine r_getP (a := 29) dX5_closingBehind_30 kf_RX5_53 (zlt hn rfl) sh_49 rfl (k7.1 _ _ _ (zlt hn rfl) p_49_0) ?_
      refine r_iload_n dX5_closingBehind_33 rfl ?_
      refine n_callV (N := M_X1_byteAt) (As := [iV x2]) (st := [iV x2]) dX5_closingBehind_34 mk_X1_byteAt km_RX5_72 kd_X1_byteAt rfl (zlt hn rfl) sh_29 (q := (RX1, TX1, 2)) rfl rfl (zFits_rm d n n n (Nat.le_refl n)) (Nat.le_of_ble_eq_true rfl) rfl k7 h13 ?_
      rintro _ σ15 k16 ⟨v14, rfl, h17, h18⟩
      change Zm _ _ _ _ _ _ 37 _ [iV v14, iV x2] _
      refine r_bipush dX5_closingBehind_37 rfl ?_
      refine r_icmp_ne (t := 46) dX5_closingBehind_39 rfl h17 (r32c rfl) (fun c19 => ?_) (fun c20 => ?_)
      · have h21 := h18.1 c19
        refine r_iconst dX5_closingBehind_46 ?_
        refine r_iadd dX5_closingBehind_47 ?_
        refine r_istore_n dX5_closingBehind_48 rfl rfl ?_
        refine r_goto (t := 4) dX5_closingBehind_49 rfl ?_
        obtain ⟨h22, h23⟩ := h21
        exact r_mask [true, false, true] rfl (h23 h22 k16)
      · have h24 := h18.2 c20
        refine r_iconst dX5_closingBehind_42 ?_
        refine r_goto (t := 47) dX5_closingBehind_43 rfl ?_
        refine r_iadd dX5_closingBehind_47 ?_
        refine r_istore_n dX5_closingBehind_48 rfl rfl ?_
        refine r_goto (t := 4) dX5_closingBehind_49 rfl ?_
        obtain ⟨h25, h26⟩ := h24
        exact r_mask [true, false, true] rfl (h26 h25 k16)
/-! StoneRoom$Reader.takeSize -/
theorem dX5_takeSize_0 : decode M_X5_takeSize.2.1 0 = .ok (.iload_n 1, 1) := by decide +kernel
theorem dX5_takeSize_1 : decode M_X5_takeSize.2.1 1 = .ok (.invokestatic 154, 3) := by decide +kernel
theorem dX5_takeSize_4 : decode M_X5_takeSize.2.1 4 = .ok (.ifCond .ne 5, 3) := by decide +kernel
theorem dX5_takeSize_7 : decode M_X5_takeSize.2.1 7 = .ok (.iconst 0, 1) := by decide +kernel
theorem dX5_takeSize_8 : decode M_X5_takeSize.2.1 8 = .ok (.ireturn, 1) := by decide +kernel
theorem dX5_takeSize_9 : decode M_X5_takeSize.2.1 9 = .ok (.aload_n 0, 1) := by decide +kernel
theorem dX5_takeSize_10 : decode M_X5_takeSize.2.1 10 = .ok (.getfield 61, 3) := by decide +kernel
theorem dX5_takeSize_13 : decode M_X5_takeSize.2.1 13 = .ok (.iload_n 1, 1) := by decide +kernel
theorem dX5_takeSize_14 : decode M_X5_takeSize.2.1 14 = .ok (.putfield 157, 3) := by decide +kernel
theorem dX5_takeSize_17 : decode M_X5_takeSize.2.1 17 = .ok (.iconst 1, 1) := by decide +kernel
theorem dX5_takeSize_18 : decode M_X5_takeSize.2.1 18 = .ok (.ireturn, 1) := by decide +kernel
theorem w_X5_takeSize {X : ZX} {d n : Nat} {P : Int → ZSto → Prop} {x1 : Int} {σ : ZSto} (hn : 73 ≤ n)  (hx1 : R32 x1)
    (h : ZkZ X M_X9_isSize d n [iV x1] σ (fun v1 σ2 => (¬ v1 = 0 → (∃ t9, gP σ2 49 4 = some t9 ∧ zIsT t9 ∧ P 1 (sI σ2 t9 13 x1))) ∧ (v1 = 0 → P 0 σ2))) :
    ZkZ X M_X5_takeSize (d + 1) n [.ref (zB X + 49), iV x1] σ P := by
  refine zk_of (ls := [some (.ref (zB X + 49)), some (iV x1)]) pl_RX5 (Nat.le_of_ble_eq_true rfl) rfl (fun k0 => ?_)
  unfold Zn
  refine r_iload_n dX5_takeSize_0 rfl ?_
  refine n_callS (N := M_X9_isSize) (As := [iV x1]) (st := []) dX5_takeSize_1 mk_X9_isSize km_RX5_154 kd_X9_isSize rfl (zFits_rm d n n n (Nat.le_refl n)) (Nat.le_of_ble_eq_true rfl) rfl k0 h ?_
  rintro _ σ2 k3 ⟨v1, rfl, h4, h5⟩
  change Zm _ _ _ _ _ _ 4 _ [iV v1] _
  refine r_if_ne (t := 9) dX5_takeSize_4 rfl (r32_z h4)  (fun c6 => ?_) (fun c7 => ?_)
  · have h8 := h5.1 c6
    refine r_aload_n dX5_takeSize_9 rfl ?_
    obtain ⟨t9, h10, h11, h12⟩ := h8
    refine r_getP (a := t9) dX5_takeSize_10 kf_RX5_61 (zlt hn rfl) sh_49 rfl h10 ?_
    refine r_iload_n dX5_takeSize_13 rfl ?_
    refine r_putI dX5_takeSize_14 kf_RX5_157 (zT_lt h11 hn) (zT_s h11) rfl (Or.inl rfl) ?_
    have k13 := zok_o (i := 13) (x := x1) k3 (zT_s h11) hx1
    refine r_iconst dX5_takeSize_17 ?_
    exact r_zreturn dX5_takeSize_18 rfl (Or.inr rfl) ⟨k13, _, rfl, (Or.inr rfl), h12⟩
  · have h14 := h5.2 c7
    refine r_iconst dX5_takeSize_7 ?_
    exact r_zreturn dX5_takeSize_8 rfl (Or.inl rfl) ⟨k3, _, rfl, (Or.inl rfl), h14⟩
/-! StoneRoom$Reader.takeKomi -/
theorem dX5_takeKomi_0 : decode M_X5_takeKomi.2.1 0 = .ok (.iload_n 1, 1) := by decide +kernel
theorem dX5_takeKomi_1 : decode M_X5_takeKomi.2.1 1 = .ok (.iconst (-1), 1) := by decide +kernel
theorem dX5_takeKomi_2 : decode M_X5_takeKomi.2.1 2 = .ok (.if_icmp .eq 10, 3) := by decide +kernel
theorem dX5_takeKomi_5 : decode M_X5_takeKomi.2.1 5 = .ok (.iload_n 1, 1) := by decide +kernel
theorem dX5_takeKomi_6 : decode M_X5_takeKomi.2.1 6 = .ok (.invokestatic 160, 3) := by decide +kernel
theorem dX5_takeKomi_9 : decode M_X5_takeKomi.2.1 9 = .ok (.ifCond .ne 5, 3) := by decide +kernel
theorem dX5_takeKomi_12 : decode M_X5_takeKomi.2.1 12 = .ok (.iconst 0, 1) := by decide +kernel
theorem dX5_takeKomi_13 : decode M_X5_takeKomi.2.1 13 = .ok (.ireturn, 1) := by decide +kernel
theorem dX5_takeKomi_14 : decode M_X5_takeKomi.2.1 14 = .ok (.aload_n 0, 1) := by decide +kernel
theorem dX5_takeKomi_15 : decode M_X5_takeKomi.2.1 15 = .ok (.getfield 61, 3) := by decide +kernel
theorem dX5_takeKomi_18 : decode M_X5_takeKomi.2.1 18 = .ok (.iload_n 2, 1) := by decide +kernel
theorem dX5_takeKomi_19 : decode M_X5_takeKomi.2.1 19 = .ok (.ifCond .eq 8, 3) := by decide +kernel
theorem dX5_takeKomi_22 : decode M_X5_takeKomi.2.1 22 = .ok (.iload_n 1, 1) := by decide +kernel
theorem dX5_takeKomi_23 : decode M_X5_takeKomi.2.1 23 = .ok (.ineg, 1) := by decide +kernel
theorem dX5_takeKomi_24 : decode M_X5_takeKomi.2.1 24 = .ok (.goto 4, 3) := by decide +kernel
theorem dX5_takeKomi_27 : decode M_X5_takeKomi.2.1 27 = .ok (.iload_n 1, 1) := by decide +kernel
theorem dX5_takeKomi_28 : decode M_X5_takeKomi.2.1 28 = .ok (.putfield 163, 3) := by decide +kernel
theorem dX5_takeKomi_31 : decode M_X5_takeKomi.2.1 31 = .ok (.iconst 1, 1) := by decide +kernel
theorem dX5_takeKomi_32 : decode M_X5_takeKomi.2.1 32 = .ok (.ireturn, 1) := by decide +kernel
theorem w_X5_takeKomi {X : ZX} {d n : Nat} {P : Int → ZSto → Prop} {x1 : Int} {x2 : Int} {σ : ZSto} (hn : 73 ≤ n)  (hx1 : R32 x1) (hx2 : R32 x2)
    (h : (x1 = (-1) → P 0 σ) ∧ (¬ (x1 = (-1)) → ZkZ X M_X9_isKomi d n [iV x1] σ (fun v5 σ6 => (¬ v5 = 0 → (∃ t13, gP σ6 49 4 = some t13 ∧ zIsT t13 ∧ (x2 = 0 → P 1 (sI σ6 t13 14 x1)) ∧ (¬ (x2 = 0) → R32 (-x1) ∧ P 1 (sI σ6 t13 14 (-x1))))) ∧ (v5 = 0 → P 0 σ6)))) :
    ZkZ X M_X5_takeKomi (d + 1) n [.ref (zB X + 49), iV x1, iV x2] σ P := by
  refine zk_of (ls := [some (.ref (zB X + 49)), some (iV x1), some (iV x2)]) pl_RX5 (Nat.le_of_ble_eq_true rfl) rfl (fun k0 => ?_)
  unfold Zn
  refine r_iload_n dX5_takeKomi_0 rfl ?_
  refine r_iconst dX5_takeKomi_1 ?_
  refine r_icmp_eq (t := 12) dX5_takeKomi_2 rfl hx1 (r32c rfl) (fun c1 => ?_) (fun c2 => ?_)
  · have h3 := h.1 c1
    refine r_iconst dX5_takeKomi_12 ?_
    exact r_zreturn dX5_takeKomi_13 rfl (Or.inl rfl) ⟨k0, _, rfl, (Or.inl rfl), h3⟩
  · have h4 := h.2 c2
    refine r_iload_n dX5_takeKomi_5 rfl ?_
    refine n_callS (N := M_X9_isKomi) (As := [iV x1]) (st := []) dX5_takeKomi_6 mk_X9_isKomi km_RX5_160 kd_X9_isKomi rfl (zFits_rm d n n n (Nat.le_refl n)) (Nat.le_of_ble_eq_true rfl) rfl k0 h4 ?_
    rintro _ σ6 k7 ⟨v5, rfl, h8, h9⟩
    change Zm _ _ _ _ _ _ 9 _ [iV v5] _
    refine r_if_ne (t := 14) dX5_takeKomi_9 rfl (r32_z h8)  (fun c10 => ?_) (fun c11 => ?_)
    · have h12 := h9.1 c10
      refine r_aload_n dX5_takeKomi_14 rfl ?_
      obtain ⟨t13, h14, h15, h16⟩ := h12
      refine r_getP (a := t13) dX5_takeKomi_15 kf_RX5_61 (zlt hn rfl) sh_49 rfl h14 ?_
      refine r_iload_n dX5_takeKomi_18 rfl ?_
      refine r_if_eq (t := 27) dX5_takeKomi_19 rfl hx2  (fun c17 => ?_) (fun c18 => ?_)
      · have h19 := h16.1 c17
        refine r_iload_n dX5_takeKomi_27 rfl ?_
        refine r_putI dX5_takeKomi_28 kf_RX5_163 (zT_lt h15 hn) (zT_s h15) rfl (Or.inl rfl) ?_
        have k20 := zok_o (i := 14) (x := x1) k7 (zT_s h15) hx1
        refine r_iconst dX5_takeKomi_31 ?_
        exact r_zreturn dX5_takeKomi_32 rfl (Or.inr rfl) ⟨k20, _, rfl, (Or.inr rfl), h19⟩
      · have h21 := h16.2 c18
        refine r_iload_n dX5_takeKomi_22 rfl ?_
        refine r_ineg dX5_takeKomi_23 ?_
        refine r_goto (t := 28) dX5_takeKomi_24 rfl ?_
        obtain ⟨h22, h23⟩ := h21
        refine r_putI dX5_takeKomi_28 kf_RX5_163 (zT_lt h15 hn) (zT_s h15) rfl (Or.inl rfl) ?_
        have k24 := zok_o (i := 14) (x := -x1) k7 (zT_s h15) h22
        refine r_iconst dX5_takeKomi_31 ?_
        exact r_zreturn dX5_takeKomi_32 rfl (Or.inr rfl) ⟨k24, _, rfl, (Or.inr rfl), h23⟩
    · have h25 := h9.2 c11
      refine r_iconst dX5_takeKomi_12 ?_
      exact r_zreturn dX5_takeKomi_13 rfl (Or.inl rfl) ⟨k7, _, rfl, (Or.inl rfl), h25⟩
/-! StoneRoom$Reader.takeSetting -/
theorem dX5_takeSetting_0 : decode M_X5_takeSetting.2.1 0 = .ok (.iload_n 2, 1) := by decide +kernel
theorem dX5_takeSetting_1 : decode M_X5_takeSetting.2.1 1 = .ok (.iconst (-1), 1) := by decide +kernel
theorem dX5_takeSetting_2 : decode M_X5_takeSetting.2.1 2 = .ok (.if_icmp .eq 15, 3) := by decide +kernel
theorem dX5_takeSetting_5 : decode M_X5_takeSetting.2.1 5 = .ok (.aload_n 0, 1) := by decide +kernel
theorem dX5_takeSetting_6 : decode M_X5_takeSetting.2.1 6 = .ok (.getfield 15, 3) := by decide +kernel
theorem dX5_takeSetting_9 : decode M_X5_takeSetting.2.1 9 = .ok (.iconst 0, 1) := by decide +kernel
theorem dX5_takeSetting_10 : decode M_X5_takeSetting.2.1 10 = .ok (.iload_n 2, 1) := by decide +kernel
theorem dX5_takeSetting_11 : decode M_X5_takeSetting.2.1 11 = .ok (.invokestatic 166, 3) := by decide +kernel
theorem dX5_takeSetting_14 : decode M_X5_takeSetting.2.1 14 = .ok (.ifCond .eq 5, 3) := by decide +kernel
theorem dX5_takeSetting_17 : decode M_X5_takeSetting.2.1 17 = .ok (.iconst 0, 1) := by decide +kernel
theorem dX5_takeSetting_18 : decode M_X5_takeSetting.2.1 18 = .ok (.ireturn, 1) := by decide +kernel
theorem dX5_takeSetting_19 : decode M_X5_takeSetting.2.1 19 = .ok (.iload_n 1, 1) := by decide +kernel
theorem dX5_takeSetting_20 : decode M_X5_takeSetting.2.1 20 = .ok (.bipush 16, 2) := by decide +kernel
theorem dX5_takeSetting_22 : decode M_X5_takeSetting.2.1 22 = .ok (.if_icmp .ne 7, 3) := by decide +kernel
theorem dX5_takeSetting_25 : decode M_X5_takeSetting.2.1 25 = .ok (.iconst 1, 1) := by decide +kernel
theorem dX5_takeSetting_26 : decode M_X5_takeSetting.2.1 26 = .ok (.goto 14, 3) := by decide +kernel
theorem dX5_takeSetting_29 : decode M_X5_takeSetting.2.1 29 = .ok (.iload_n 1, 1) := by decide +kernel
theorem dX5_takeSetting_30 : decode M_X5_takeSetting.2.1 30 = .ok (.bipush 32, 2) := by decide +kernel
theorem dX5_takeSetting_32 : decode M_X5_takeSetting.2.1 32 = .ok (.if_icmp .ne 7, 3) := by decide +kernel
theorem dX5_takeSetting_35 : decode M_X5_takeSetting.2.1 35 = .ok (.iconst 2, 1) := by decide +kernel
theorem dX5_takeSetting_36 : decode M_X5_takeSetting.2.1 36 = .ok (.goto 4, 3) := by decide +kernel
theorem dX5_takeSetting_39 : decode M_X5_takeSetting.2.1 39 = .ok (.iconst 3, 1) := by decide +kernel
theorem dX5_takeSetting_40 : decode M_X5_takeSetting.2.1 40 = .ok (.istore_n 3, 1) := by decide +kernel
theorem dX5_takeSetting_41 : decode M_X5_takeSetting.2.1 41 = .ok (.iload_n 2, 1) := by decide +kernel
theorem dX5_takeSetting_42 : decode M_X5_takeSetting.2.1 42 = .ok (.iconst 5, 1) := by decide +kernel
theorem dX5_takeSetting_43 : decode M_X5_takeSetting.2.1 43 = .ok (.ishr, 1) := by decide +kernel
theorem dX5_takeSetting_44 : decode M_X5_takeSetting.2.1 44 = .ok (.istore 4, 2) := by decide +kernel
theorem dX5_takeSetting_46 : decode M_X5_takeSetting.2.1 46 = .ok (.iload 4, 2) := by decide +kernel
theorem dX5_takeSetting_48 : decode M_X5_takeSetting.2.1 48 = .ok (.ifCond .lt 28, 3) := by decide +kernel
theorem dX5_takeSetting_51 : decode M_X5_takeSetting.2.1 51 = .ok (.iload 4, 2) := by decide +kernel
theorem dX5_takeSetting_53 : decode M_X5_takeSetting.2.1 53 = .ok (.iconst 3, 1) := by decide +kernel
theorem dX5_takeSetting_54 : decode M_X5_takeSetting.2.1 54 = .ok (.if_icmp .ge 22, 3) := by decide +kernel
theorem dX5_takeSetting_57 : decode M_X5_takeSetting.2.1 57 = .ok (.aload_n 0, 1) := by decide +kernel
theorem dX5_takeSetting_58 : decode M_X5_takeSetting.2.1 58 = .ok (.getfield 15, 3) := by decide +kernel
theorem dX5_takeSetting_61 : decode M_X5_takeSetting.2.1 61 = .ok (.iload 4, 2) := by decide +kernel
theorem dX5_takeSetting_63 : decode M_X5_takeSetting.2.1 63 = .ok (.dup2, 1) := by decide +kernel
theorem dX5_takeSetting_64 : decode M_X5_takeSetting.2.1 64 = .ok (.laload, 1) := by decide +kernel
theorem dX5_takeSetting_65 : decode M_X5_takeSetting.2.1 65 = .ok (.iload_n 3, 1) := by decide +kernel
theorem dX5_takeSetting_66 : decode M_X5_takeSetting.2.1 66 = .ok (.i2l, 1) := by decide +kernel
theorem dX5_takeSetting_67 : decode M_X5_takeSetting.2.1 67 = .ok (.iconst 2, 1) := by decide +kernel
theorem dX5_takeSetting_68 : decode M_X5_takeSetting.2.1 68 = .ok (.iload_n 2, 1) := by decide +kernel
theorem dX5_takeSetting_69 : decode M_X5_takeSetting.2.1 69 = .ok (.bipush 31, 2) := by decide +kernel
theorem dX5_takeSetting_71 : decode M_X5_takeSetting.2.1 71 = .ok (.iand, 1) := by decide +kernel
theorem dX5_takeSetting_72 : decode M_X5_takeSetting.2.1 72 = .ok (.imul, 1) := by decide +kernel
theorem dX5_takeSetting_73 : decode M_X5_takeSetting.2.1 73 = .ok (.lshl, 1) := by decide +kernel
theorem dX5_takeSetting_74 : decode M_X5_takeSetting.2.1 74 = .ok (.lor, 1) := by decide +kernel
theorem dX5_takeSetting_75 : decode M_X5_takeSetting.2.1 75 = .ok (.lastore, 1) := by decide +kernel
theorem dX5_takeSetting_76 : decode M_X5_takeSetting.2.1 76 = .ok (.iconst 1, 1) := by decide +kernel
theorem dX5_takeSetting_77 : decode M_X5_takeSetting.2.1 77 = .ok (.ireturn, 1) := by decide +kernel
def L_X5_takeSetting_40 (X : ZX) (d n : Nat) (P : Option Value → ZSto → Prop) (x2 : Int) (x20 : Int) (σ : ZSto) : Prop := R32 x2 → R32 x20 → ZOk n σ → Zn X M_X5_takeSetting d n P 40 [some (.ref (zB X + 49)), none, some (iV x2), none, none] [iV x20] σ
theorem w_X5_takeSetting {X : ZX} {d n : Nat} {P : Int → ZSto → Prop} {x1 : Int} {x2 : Int} {σ : ZSto} (hn : 73 ≤ n)  (hx1 : R32 x1) (hx2 : R32 x2)
    (h : (x2 = (-1) → P 0 σ) ∧ (¬ (x2 = (-1)) → ZkI X M_X9_pairAt d n [.ref (zB X + 51), iV 0, iV x2] σ (fun v5 σ6 => (v5 = 0 → (¬ x1 = 16 → (¬ x1 = 32 → L_X5_takeSetting_40 X d n (zpZ P) x2 3 σ6) ∧ (x1 = 32 → L_X5_takeSetting_40 X d n (zpZ P) x2 2 σ6)) ∧ (x1 = 16 → L_X5_takeSetting_40 X d n (zpZ P) x2 1 σ6)) ∧ (¬ (v5 = 0) → P 0 σ6)))) :
    ZkZ X M_X5_takeSetting (d + 1) n [.ref (zB X + 49), iV x1, iV x2] σ P := by
  refine zk_of (ls := [some (.ref (zB X + 49)), some (iV x1), some (iV x2), none, none]) pl_RX5 (Nat.le_of_ble_eq_true rfl) rfl (fun k0 => ?_)
  unfold Zn
  refine r_iload_n dX5_takeSetting_0 rfl ?_
  refine r_iconst dX5_takeSetting_1 ?_
  refine r_icmp_eq (t := 17) dX5_takeSetting_2 rfl hx2 (r32c rfl) (fun c1 => ?_) (fun c2 => ?_)
  · have h3 := h.1 c1
    refine r_iconst dX5_takeSetting_17 ?_
    exact r_zreturn dX5_takeSetting_18 rfl (Or.inl rfl) ⟨k0, _, rfl, (Or.inl rfl), h3⟩
  · have h4 := h.2 c2
    refine r_aload_n dX5_takeSetting_5 rfl ?_
    refine r_getP (a := 51) dX5_takeSetting_6 kf_RX5_15 (zlt hn rfl) sh_49 rfl (k0.1 _ _ _ (zlt hn rfl) p_49_3) ?_
    refine r_iconst dX5_takeSetting_9 ?_
    refine r_iload_n dX5_takeSetting_10 rfl ?_
    refine n_callS (N := M_X9_pairAt) (As := [.ref (zB X + 51), iV 0, iV x2]) (st := []) dX5_takeSetting_11 mk_X9_pairAt km_RX5_166 kd_X9_pairAt rfl (zFits_rm d n n n (Nat.le_refl n)) (Nat.le_of_ble_eq_true rfl) rfl k0 h4 ?_
    rintro _ σ6 k7 ⟨v5, rfl, h8, h9⟩
    change Zm _ _ _ _ _ _ 14 _ [iV v5] _
    refine r_if_eq (t := 19) dX5_takeSetting_14 rfl h8  (fun c10 => ?_) (fun c11 => ?_)
    · have h12 := h9.1 c10
      refine r_iload_n dX5_takeSetting_19 rfl ?_
      refine r_bipush dX5_takeSetting_20 rfl ?_
      refine r_icmp_ne (t := 29) dX5_takeSetting_22 rfl hx1 (r32c rfl) (fun c13 => ?_) (fun c14 => ?_)
      · have h15 := h12.1 c13
        refine r_iload_n dX5_takeSetting_29 rfl ?_
        refine r_bipush dX5_takeSetting_30 rfl ?_
        refine r_icmp_ne (t := 39) dX5_takeSetting_32 rfl hx1 (r32c rfl) (fun c16 => ?_) (fun c17 => ?_)
        · have h18 := h15.1 c16
          refine r_iconst dX5_takeSetting_39 ?_
          exact r_mask [true, false, true, false, false] rfl (h18 hx2 (r32c rfl) k7)
        · have h19 := h15.2 c17
          refine r_iconst dX5_takeSetting_35 ?_
          refine r_goto (t := 40) dX5_takeSetting_36 rfl ?_
          exact r_mask [true, false, true, false, false] rfl (h19 hx2 (r32c rfl) k7)
      · have h20 := h12.2 c14
        refine r_iconst dX5_takeSetting_25 ?_
        refine r_goto (t := 40) dX5_takeSetting_26 rfl ?_
        exact r_mask [true, false, true, false, false] rfl (h20 hx2 (r32c rfl) k7)
    · have h21 := h9.2 c11
      refine r_iconst dX5_takeSetting_17 ?_
      exact r_zreturn dX5_takeSetting_18 rfl (Or.inl rfl) ⟨k7, _, rfl, (Or.inl rfl), h21⟩
theorem b_X5_takeSetting_40 {X : ZX} {d n : Nat} {P : Int → ZSto → Prop} {x2 : Int} {x20 : Int} {σ : ZSto} (hn : 73 ≤ n) 
    (h : (shrI x2 5 < 0 → P 1 σ) ∧ (¬ (shrI x2 5 < 0) → (3 ≤ shrI x2 5 → P 1 σ) ∧ (¬ (3 ≤ shrI x2 5) → (0 ≤ shrI x2 5 ∧ shrI x2 5 < 3) ∧ P 1 (sL σ 51 ((shrI x2 5).toNat) ((gL σ 51 ((shrI x2 5).toNat)) ||| (lshlF (i2lF x20) (2 * (andI x2 31)))))))) :
    L_X5_takeSetting_40 X d n (zpZ P) x2 x20 σ := by
  intro hx2 hx20 k0
  unfold Zn
  refine r_istore_n dX5_takeSetting_40 rfl rfl ?_
  refine r_iload_n dX5_takeSetting_41 rfl ?_
  refine r_iconst dX5_takeSetting_42 ?_
  refine r_ishr dX5_takeSetting_43 ?_
  refine r_istore dX5_takeSetting_44 rfl rfl ?_
  refine r_iload dX5_takeSetting_46 rfl ?_
  refine r_if_lt (t := 76) dX5_takeSetting_48 rfl (r32_shr _ _)  (fun c1 => ?_) (fun c2 => ?_)
  · have h3 := h.1 c1
    refine r_iconst dX5_takeSetting_76 ?_
    exact r_zreturn dX5_takeSetting_77 rfl (Or.inr rfl) ⟨k0, _, rfl, (Or.inr rfl), h3⟩
  · have h4 := h.2 c2
    refine r_iload dX5_takeSetting_51 rfl ?_
    refine r_iconst dX5_takeSetting_53 ?_
    refine r_icmp_ge (t := 76) dX5_takeSetting_54 rfl (r32_shr _ _) (r32c rfl) (fun c5 => ?_) (fun c6 => ?_)
    · have h7 := h4.1 c5
      refine r_iconst dX5_takeSetting_76 ?_
      exact r_zreturn dX5_takeSetting_77 rfl (Or.inr rfl) ⟨k0, _, rfl, (Or.inr rfl), h7⟩
    · have h8 := h4.2 c6
      refine r_aload_n dX5_takeSetting_57 rfl ?_
      refine r_getP (a := 51) dX5_takeSetting_58 kf_RX5_15 (zlt hn rfl) sh_49 rfl (k0.1 _ _ _ (zlt hn rfl) p_49_3) ?_
      refine r_iload dX5_takeSetting_61 rfl ?_
      refine r_dup2 dX5_takeSetting_63 rfl rfl ?_
      obtain ⟨h9, h10⟩ := h8
      refine r_laloadE dX5_takeSetting_64 (zlt hn rfl) sh_51 h9.1 h9.2 rfl ?_
      refine r_iload_n dX5_takeSetting_65 rfl ?_
      refine r_i2l dX5_takeSetting_66 ?_
      refine r_iconst dX5_takeSetting_67 ?_
      refine r_iload_n dX5_takeSetting_68 rfl ?_
      refine r_bipush dX5_takeSetting_69 rfl ?_
      refine r_iand dX5_takeSetting_71 ?_
      refine r_imul dX5_takeSetting_72 ?_
      refine r_lshl dX5_takeSetting_73 ?_
      refine r_lor dX5_takeSetting_74 ?_
      refine r_lastore dX5_takeSetting_75 (zlt hn rfl) sh_51 h9.1 h9.2 ?_
      have k11 := zok_l (a := 51) (i := (shrI x2 5).toNat) (x := (gL σ 51 ((shrI x2 5).toNat)) ||| (lshlF (i2lF x20) (2 * (andI x2 31)))) k0
      refine r_iconst dX5_takeSetting_76 ?_
      exact r_zreturn dX5_takeSetting_77 rfl (Or.inr rfl) ⟨k11, _, rfl, (Or.inr rfl), h10⟩
/-! StoneRoom$Reader.numberIn -/
theorem dX5_numberIn_0 : decode M_X5_numberIn.2.1 0 = .ok (.iload_n 2, 1) := by decide +kernel
theorem dX5_numberIn_1 : decode M_X5_numberIn.2.1 1 = .ok (.iload_n 1, 1) := by decide +kernel
theorem dX5_numberIn_2 : decode M_X5_numberIn.2.1 2 = .ok (.isub, 1) := by decide +kernel
theorem dX5_numberIn_3 : decode M_X5_numberIn.2.1 3 = .ok (.iconst 1, 1) := by decide +kernel
theorem dX5_numberIn_4 : decode M_X5_numberIn.2.1 4 = .ok (.if_icmp .lt 10, 3) := by decide +kernel
theorem dX5_numberIn_7 : decode M_X5_numberIn.2.1 7 = .ok (.iload_n 2, 1) := by decide +kernel
theorem dX5_numberIn_8 : decode M_X5_numberIn.2.1 8 = .ok (.iload_n 1, 1) := by decide +kernel
theorem dX5_numberIn_9 : decode M_X5_numberIn.2.1 9 = .ok (.isub, 1) := by decide +kernel
theorem dX5_numberIn_10 : decode M_X5_numberIn.2.1 10 = .ok (.iconst 3, 1) := by decide +kernel
theorem dX5_numberIn_11 : decode M_X5_numberIn.2.1 11 = .ok (.if_icmp .le 5, 3) := by decide +kernel
theorem dX5_numberIn_14 : decode M_X5_numberIn.2.1 14 = .ok (.iconst (-1), 1) := by decide +kernel
theorem dX5_numberIn_15 : decode M_X5_numberIn.2.1 15 = .ok (.ireturn, 1) := by decide +kernel
theorem dX5_numberIn_16 : decode M_X5_numberIn.2.1 16 = .ok (.iconst 0, 1) := by decide +kernel
theorem dX5_numberIn_17 : decode M_X5_numberIn.2.1 17 = .ok (.istore_n 3, 1) := by decide +kernel
theorem dX5_numberIn_18 : decode M_X5_numberIn.2.1 18 = .ok (.iload_n 1, 1) := by decide +kernel
theorem dX5_numberIn_19 : decode M_X5_numberIn.2.1 19 = .ok (.istore 4, 2) := by decide +kernel
theorem dX5_numberIn_21 : decode M_X5_numberIn.2.1 21 = .ok (.iload 4, 2) := by decide +kernel
theorem dX5_numberIn_23 : decode M_X5_numberIn.2.1 23 = .ok (.iload_n 2, 1) := by decide +kernel
theorem dX5_numberIn_24 : decode M_X5_numberIn.2.1 24 = .ok (.if_icmp .ge 45, 3) := by decide +kernel
theorem dX5_numberIn_27 : decode M_X5_numberIn.2.1 27 = .ok (.aload_n 0, 1) := by decide +kernel
theorem dX5_numberIn_28 : decode M_X5_numberIn.2.1 28 = .ok (.getfield 53, 3) := by decide +kernel
theorem dX5_numberIn_31 : decode M_X5_numberIn.2.1 31 = .ok (.iload 4, 2) := by decide +kernel
theorem dX5_numberIn_33 : decode M_X5_numberIn.2.1 33 = .ok (.invokevirtual 72, 3) := by decide +kernel
theorem dX5_numberIn_36 : decode M_X5_numberIn.2.1 36 = .ok (.bipush 48, 2) := by decide +kernel
theorem dX5_numberIn_38 : decode M_X5_numberIn.2.1 38 = .ok (.isub, 1) := by decide +kernel
theorem dX5_numberIn_39 : decode M_X5_numberIn.2.1 39 = .ok (.istore 5, 2) := by decide +kernel
theorem dX5_numberIn_41 : decode M_X5_numberIn.2.1 41 = .ok (.iload 5, 2) := by decide +kernel
theorem dX5_numberIn_43 : decode M_X5_numberIn.2.1 43 = .ok (.ifCond .lt 10, 3) := by decide +kernel
theorem dX5_numberIn_46 : decode M_X5_numberIn.2.1 46 = .ok (.iload 5, 2) := by decide +kernel
theorem dX5_numberIn_48 : decode M_X5_numberIn.2.1 48 = .ok (.bipush 9, 2) := by decide +kernel
theorem dX5_numberIn_50 : decode M_X5_numberIn.2.1 50 = .ok (.if_icmp .le 5, 3) := by decide +kernel
theorem dX5_numberIn_53 : decode M_X5_numberIn.2.1 53 = .ok (.iconst (-1), 1) := by decide +kernel
theorem dX5_numberIn_54 : decode M_X5_numberIn.2.1 54 = .ok (.ireturn, 1) := by decide +kernel
theorem dX5_numberIn_55 : decode M_X5_numberIn.2.1 55 = .ok (.bipush 10, 2) := by decide +kernel
theorem dX5_numberIn_57 : decode M_X5_numberIn.2.1 57 = .ok (.iload_n 3, 1) := by decide +kernel
theorem dX5_numberIn_58 : decode M_X5_numberIn.2.1 58 = .ok (.imul, 1) := by decide +kernel
theorem dX5_numberIn_59 : decode M_X5_numberIn.2.1 59 = .ok (.iload 5, 2) := by decide +kernel
theorem dX5_numberIn_61 : decode M_X5_numberIn.2.1 61 = .ok (.iadd, 1) := by decide +kernel
theorem dX5_numberIn_62 : decode M_X5_numberIn.2.1 62 = .ok (.istore_n 3, 1) := by decide +kernel
theorem dX5_numberIn_63 : decode M_X5_numberIn.2.1 63 = .ok (.iinc 4 1, 3) := by decide +kernel
theorem dX5_numberIn_66 : decode M_X5_numberIn.2.1 66 = .ok (.goto (-45), 3) := by decide +kernel
theorem dX5_numberIn_69 : decode M_X5_numberIn.2.1 69 = .ok (.iload_n 3, 1) := by decide +kernel
theorem dX5_numberIn_70 : decode M_X5_numberIn.2.1 70 = .ok (.ireturn, 1) := by decide +kernel
def L_X5_numberIn_21 (X : ZX) (d n : Nat) (P : Option Value → ZSto → Prop) (x2 : Int) (x3 : Int) (x4 : Int) (σ : ZSto) : Prop := R32 x2 → R32 x3 → R32 x4 → ZOk n σ → Zn X M_X5_numberIn d n P 21 [some (.ref (zB X + 49)), none, some (iV x2), some (iV x3), some (iV x4), none] [] σ
theorem w_X5_numberIn {X : ZX} {d n : Nat} {P : Int → ZSto → Prop} {x1 : Int} {x2 : Int} {σ : ZSto} (hn : 73 ≤ n)  (hx1 : R32 x1) (hx2 : R32 x2)
    (h : R32 (x2 - x1) ∧ (x2 - x1 < 1 → P ((-1)) σ) ∧ (¬ (x2 - x1 < 1) → (x2 - x1 ≤ 3 → L_X5_numberIn_21 X d n (zpI P) x2 0 x1 σ) ∧ (¬ (x2 - x1 ≤ 3) → P ((-1)) σ))) :
    ZkI X M_X5_numberIn (d + 1) n [.ref (zB X + 49), iV x1, iV x2] σ P := by
  refine zk_of (ls := [some (.ref (zB X + 49)), some (iV x1), some (iV x2), none, none, none]) pl_RX5 (Nat.le_of_ble_eq_true rfl) rfl (fun k0 => ?_)
  unfold Zn
  refine r_iload_n dX5_numberIn_0 rfl ?_
  refine r_iload_n dX5_numberIn_1 rfl ?_
  refine r_isub dX5_numberIn_2 ?_
  refine r_iconst dX5_numberIn_3 ?_
  obtain ⟨h1, h2⟩ := h
  refine r_icmp_lt (t := 14) dX5_numberIn_4 rfl h1 (r32c rfl) (fun c3 => ?_) (fun c4 => ?_)
  · have h5 := h2.1 c3
    refine r_iconst dX5_numberIn_14 ?_
    exact r_ireturn dX5_numberIn_15 rfl ⟨k0, _, rfl, (r32c rfl), h5⟩
  · have h6 := h2.2 c4
    refine r_iload_n dX5_numberIn_7 rfl ?_
    refine r_iload_n dX5_numberIn_8 rfl ?_
    refine r_isub dX5_numberIn_9 ?_
    refine r_iconst dX5_numberIn_10 ?_
    refine r_icmp_le (t := 16) dX5_numberIn_11 rfl h1 (r32c rfl) (fun c7 => ?_) (fun c8 => ?_)
    · have h9 := h6.1 c7
      refine r_iconst dX5_numberIn_16 ?_
      refine r_istore_n dX5_numberIn_17 rfl rfl ?_
      refine r_iload_n dX5_numberIn_18 rfl ?_
      refine r_istore dX5_numberIn_19 rfl rfl ?_
      exact r_mask [true, false, true, true, true, false] rfl (h9 hx2 (r32c rfl) hx1 k0)
    · have h10 := h6.2 c8
      refine r_iconst dX5_numberIn_14 ?_
      exact r_ireturn dX5_numberIn_15 rfl ⟨k0, _, rfl, (r32c rfl), h10⟩
theorem b_X5_numberIn_21 {X : ZX} {d n : Nat} {P : Int → ZSto → Prop} {x2 : Int} {x3 : Int} {x4 : Int} {σ : ZSto} (hn : 73 ≤ n) 
    (h : (x2 ≤ x4 → P x3 σ) ∧ (¬ (x2 ≤ x4) → ZkI X M_X1_byteAt d n [.ref (zB X + 29), iV x4] σ (fun v5 σ6 => R32 (v5 - 48) ∧ (v5 - 48 < 0 → P ((-1)) σ6) ∧ (¬ (v5 - 48 < 0) → (v5 - 48 ≤ 9 → R32 ((10 * x3) + (v5 - 48)) ∧ R32 (x4 + 1) ∧ L_X5_numberIn_21 X d n (zpI P) x2 ((10 * x3) + (v5 - 48)) (x4 + 1) σ6) ∧ (¬ (v5 - 48 ≤ 9) → P ((-1)) σ6))))) :
    L_X5_numberIn_21 X d n (zpI P) x2 x3 x4 σ := by
  intro hx2 hx3 hx4 k0
  unfold Zn
  refine r_iload dX5_numberIn_21 rfl ?_
  refine r_iload_n dX5_numberIn_23 rfl ?_
  refine r_icmp_ge (t := 69) dX5_numberIn_24 rfl hx4 hx2 (fun c1 => ?_) (fun c2 => ?_)
  · have h3 := h.1 c1
    refine r_iload_n dX5_numberIn_69 rfl ?_
    exact r_ireturn dX5_numberIn_70 rfl ⟨k0, _, rfl, hx3, h3⟩
  · have h4 := h.2 c2
    refine r_aload_n dX5_numberIn_27 rfl ?_
    refine r_getP (a := 29) dX5_numberIn_28 kf_RX5_53 (zlt hn rfl) sh_49 rfl (k0.1 _ _ _ (zlt hn rfl) p_49_0) ?_
    refine r_iload dX5_numberIn_31 rfl ?_
    refine n_callV (N := M_X1_byteAt) (As := [iV x4]) (st := []) dX5_numberIn_33 mk_X1_byteAt km_RX5_72 kd_X1_byteAt rfl (zlt hn rfl) sh_29 (q := (RX1, TX1, 2)) rfl rfl (zFits_rm d n n n (Nat.le_refl n)) (Nat.le_of_ble_eq_true rfl) rfl k0 h4 ?_
    rintro _ σ6 k7 ⟨v5, rfl, h8, h9⟩
    change Zm _ _ _ _ _ _ 36 _ [iV v5] _
    refine r_bipush dX5_numberIn_36 rfl ?_
    refine r_isub dX5_numberIn_38 ?_
    refine r_istore dX5_numberIn_39 rfl rfl ?_
    refine r_iload dX5_numberIn_41 rfl ?_
    obtain ⟨h10, h11⟩ := h9
    refine r_if_lt (t := 53) dX5_numberIn_43 rfl h10  (fun c12 => ?_) (fun c13 => ?_)
    · have h14 := h11.1 c12
      refine r_iconst dX5_numberIn_53 ?_
      exact r_ireturn dX5_numberIn_54 rfl ⟨k7, _, rfl, (r32c rfl), h14⟩
    · have h15 := h11.2 c13
      refine r_iload dX5_numberIn_46 rfl ?_
      refine r_bipush dX5_numberIn_48 rfl ?_
      refine r_icmp_le (t := 55) dX5_numberIn_50 rfl h10 (r32c rfl) (fun c16 => ?_) (fun c17 => ?_)
      · have h18 := h15.1 c16
        refine r_bipush dX5_numberIn_55 rfl ?_
        refine r_iload_n dX5_numberIn_57 rfl ?_
        refine r_imul dX5_numberIn_58 ?_
        refine r_iload dX5_numberIn_59 rfl ?_
        refine r_iadd dX5_numberIn_61 ?_
        refine r_istore_n dX5_numberIn_62 rfl rfl ?_
        refine r_iinc dX5_numberIn_63 rfl rfl rfl ?_
        refine r_goto (t := 21) dX5_numberIn_66 rfl ?_
        obtain ⟨h19, h20⟩ := h18
        obtain ⟨h21, h22⟩ := h20
        exact r_mask [true, false, true, true, true, false] rfl (h22 hx2 h19 h21 k7)
      · have h23 := h15.2 c17
        refine r_iconst dX5_numberIn_53 ?_
        exact r_ireturn dX5_numberIn_54 rfl ⟨k7, _, rfl, (r32c rfl), h23⟩
/-! StoneRoom$Reader.pointIn -/
theorem dX5_pointIn_0 : decode M_X5_pointIn.2.1 0 = .ok (.iload_n 2, 1) := by decide +kernel
theorem dX5_pointIn_1 : decode M_X5_pointIn.2.1 1 = .ok (.iload_n 1, 1) := by decide +kernel
theorem dX5_pointIn_2 : decode M_X5_pointIn.2.1 2 = .ok (.isub, 1) := by decide +kernel
theorem dX5_pointIn_3 : decode M_X5_pointIn.2.1 3 = .ok (.iconst 2, 1) := by decide +kernel
theorem dX5_pointIn_4 : decode M_X5_pointIn.2.1 4 = .ok (.if_icmp .eq 5, 3) := by decide +kernel
theorem dX5_pointIn_7 : decode M_X5_pointIn.2.1 7 = .ok (.iconst (-1), 1) := by decide +kernel
theorem dX5_pointIn_8 : decode M_X5_pointIn.2.1 8 = .ok (.ireturn, 1) := by decide +kernel
theorem dX5_pointIn_9 : decode M_X5_pointIn.2.1 9 = .ok (.aload_n 0, 1) := by decide +kernel
theorem dX5_pointIn_10 : decode M_X5_pointIn.2.1 10 = .ok (.getfield 53, 3) := by decide +kernel
theorem dX5_pointIn_13 : decode M_X5_pointIn.2.1 13 = .ok (.iload_n 1, 1) := by decide +kernel
theorem dX5_pointIn_14 : decode M_X5_pointIn.2.1 14 = .ok (.invokevirtual 72, 3) := by decide +kernel
theorem dX5_pointIn_17 : decode M_X5_pointIn.2.1 17 = .ok (.bipush 97, 2) := by decide +kernel
theorem dX5_pointIn_19 : decode M_X5_pointIn.2.1 19 = .ok (.isub, 1) := by decide +kernel
theorem dX5_pointIn_20 : decode M_X5_pointIn.2.1 20 = .ok (.istore_n 3, 1) := by decide +kernel
theorem dX5_pointIn_21 : decode M_X5_pointIn.2.1 21 = .ok (.aload_n 0, 1) := by decide +kernel
theorem dX5_pointIn_22 : decode M_X5_pointIn.2.1 22 = .ok (.getfield 53, 3) := by decide +kernel
theorem dX5_pointIn_25 : decode M_X5_pointIn.2.1 25 = .ok (.iload_n 1, 1) := by decide +kernel
theorem dX5_pointIn_26 : decode M_X5_pointIn.2.1 26 = .ok (.iconst 1, 1) := by decide +kernel
theorem dX5_pointIn_27 : decode M_X5_pointIn.2.1 27 = .ok (.iadd, 1) := by decide +kernel
theorem dX5_pointIn_28 : decode M_X5_pointIn.2.1 28 = .ok (.invokevirtual 72, 3) := by decide +kernel
theorem dX5_pointIn_31 : decode M_X5_pointIn.2.1 31 = .ok (.bipush 97, 2) := by decide +kernel
theorem dX5_pointIn_33 : decode M_X5_pointIn.2.1 33 = .ok (.isub, 1) := by decide +kernel
theorem dX5_pointIn_34 : decode M_X5_pointIn.2.1 34 = .ok (.istore 4, 2) := by decide +kernel
theorem dX5_pointIn_36 : decode M_X5_pointIn.2.1 36 = .ok (.iload_n 3, 1) := by decide +kernel
theorem dX5_pointIn_37 : decode M_X5_pointIn.2.1 37 = .ok (.ifCond .lt 31, 3) := by decide +kernel
theorem dX5_pointIn_40 : decode M_X5_pointIn.2.1 40 = .ok (.iload_n 3, 1) := by decide +kernel
theorem dX5_pointIn_41 : decode M_X5_pointIn.2.1 41 = .ok (.aload_n 0, 1) := by decide +kernel
theorem dX5_pointIn_42 : decode M_X5_pointIn.2.1 42 = .ok (.getfield 61, 3) := by decide +kernel
theorem dX5_pointIn_45 : decode M_X5_pointIn.2.1 45 = .ok (.getfield 157, 3) := by decide +kernel
theorem dX5_pointIn_48 : decode M_X5_pointIn.2.1 48 = .ok (.if_icmp .ge 20, 3) := by decide +kernel
theorem dX5_pointIn_51 : decode M_X5_pointIn.2.1 51 = .ok (.iload 4, 2) := by decide +kernel
theorem dX5_pointIn_53 : decode M_X5_pointIn.2.1 53 = .ok (.ifCond .lt 15, 3) := by decide +kernel
theorem dX5_pointIn_56 : decode M_X5_pointIn.2.1 56 = .ok (.iload 4, 2) := by decide +kernel
theorem dX5_pointIn_58 : decode M_X5_pointIn.2.1 58 = .ok (.aload_n 0, 1) := by decide +kernel
theorem dX5_pointIn_59 : decode M_X5_pointIn.2.1 59 = .ok (.getfield 61, 3) := by decide +kernel
theorem dX5_pointIn_62 : decode M_X5_pointIn.2.1 62 = .ok (.getfield 157, 3) := by decide +kernel
theorem dX5_pointIn_65 : decode M_X5_pointIn.2.1 65 = .ok (.if_icmp .lt 5, 3) := by decide +kernel
theorem dX5_pointIn_68 : decode M_X5_pointIn.2.1 68 = .ok (.iconst (-1), 1) := by decide +kernel
theorem dX5_pointIn_69 : decode M_X5_pointIn.2.1 69 = .ok (.ireturn, 1) := by decide +kernel
theorem dX5_pointIn_70 : decode M_X5_pointIn.2.1 70 = .ok (.iload 4, 2) := by decide +kernel
theorem dX5_pointIn_72 : decode M_X5_pointIn.2.1 72 = .ok (.aload_n 0, 1) := by decide +kernel
theorem dX5_pointIn_73 : decode M_X5_pointIn.2.1 73 = .ok (.getfield 61, 3) := by decide +kernel
theorem dX5_pointIn_76 : decode M_X5_pointIn.2.1 76 = .ok (.getfield 157, 3) := by decide +kernel
theorem dX5_pointIn_79 : decode M_X5_pointIn.2.1 79 = .ok (.imul, 1) := by decide +kernel
theorem dX5_pointIn_80 : decode M_X5_pointIn.2.1 80 = .ok (.iload_n 3, 1) := by decide +kernel
theorem dX5_pointIn_81 : decode M_X5_pointIn.2.1 81 = .ok (.iadd, 1) := by decide +kernel
theorem dX5_pointIn_82 : decode M_X5_pointIn.2.1 82 = .ok (.ireturn, 1) := by decide +kernel
theorem w_X5_pointIn {X : ZX} {d n : Nat} {P : Int → ZSto → Prop} {x1 : Int} {x2 : Int} {σ : ZSto} (hn : 73 ≤ n)  (hx1 : R32 x1) (hx2 : R32 x2)
    (h : R32 (x2 - x1) ∧ (x2 - x1 = 2 → ZkI X M_X1_byteAt d n [.ref (zB X + 29), iV x1] σ (fun v6 σ7 => ZkI X M_X1_byteAt d n [.ref (zB X + 29), iV (x1 + 1)] σ7 (fun v11 σ12 => R32 (v6 - 97) ∧ (v6 - 97 < 0 → P ((-1)) σ12) ∧ (¬ (v6 - 97 < 0) → (∃ t22, gP σ12 49 4 = some t22 ∧ zIsT t22 ∧ (gI σ12 t22 13 ≤ v6 - 97 → P ((-1)) σ12) ∧ (¬ (gI σ12 t22 13 ≤ v6 - 97) → R32 (v11 - 97) ∧ (v11 - 97 < 0 → P ((-1)) σ12) ∧ (¬ (v11 - 97 < 0) → (v11 - 97 < gI σ12 t22 13 → R32 (((v11 - 97) * (gI σ12 t22 13)) + (v6 - 97)) ∧ P (((v11 - 97) * (gI σ12 t22 13)) + (v6 - 97)) σ12) ∧ (¬ (v11 - 97 < gI σ12 t22 13) → P ((-1)) σ12)))))))) ∧ (¬ (x2 - x1 = 2) → P ((-1)) σ)) :
    ZkI X M_X5_pointIn (d + 1) n [.ref (zB X + 49), iV x1, iV x2] σ P := by
  refine zk_of (ls := [some (.ref (zB X + 49)), some (iV x1), some (iV x2), none, none]) pl_RX5 (Nat.le_of_ble_eq_true rfl) rfl (fun k0 => ?_)
  unfold Zn
  refine r_iload_n dX5_pointIn_0 rfl ?_
  refine r_iload_n dX5_pointIn_1 rfl ?_
  refine r_isub dX5_pointIn_2 ?_
  refine r_iconst dX5_pointIn_3 ?_
  obtain ⟨h1, h2⟩ := h
  refine r_icmp_eq (t := 9) dX5_pointIn_4 rfl h1 (r32c rfl) (fun c3 => ?_) (fun c4 => ?_)
  · have h5 := h2.1 c3
    refine r_aload_n dX5_pointIn_9 rfl ?_
    refine r_getP (a := 29) dX5_pointIn_10 kf_RX5_53 (zlt hn rfl) sh_49 rfl (k0.1 _ _ _ (zlt hn rfl) p_49_0) ?_
    refine r_iload_n dX5_pointIn_13 rfl ?_
    refine n_callV (N := M_X1_byteAt) (As := [iV x1]) (st := []) dX5_pointIn_14 mk_X1_byteAt km_RX5_72 kd_X1_byteAt rfl (zlt hn rfl) sh_29 (q := (RX1, TX1, 2)) rfl rfl (zFits_rm d n n n (Nat.le_refl n)) (Nat.le_of_ble_eq_true rfl) rfl k0 h5 ?_
    rintro _ σ7 k8 ⟨v6, rfl, h9, h10⟩
    change Zm _ _ _ _ _ _ 17 _ [iV v6] _
    refine r_bipush dX5_pointIn_17 rfl ?_
    refine r_isub dX5_pointIn_19 ?_
    refine r_istore_n dX5_pointIn_20 rfl rfl ?_
    refine r_aload_n dX5_pointIn_21 rfl ?_
    refine r_getP (a := 29) dX5_pointIn_22 kf_RX5_53 (zlt hn rfl) sh_49 rfl (k8.1 _ _ _ (zlt hn rfl) p_49_0) ?_
    refine r_iload_n dX5_pointIn_25 rfl ?_
    refine r_iconst dX5_pointIn_26 ?_
    refine r_iadd dX5_pointIn_27 ?_
    refine n_callV (N := M_X1_byteAt) (As := [iV (x1 + 1)]) (st := []) dX5_pointIn_28 mk_X1_byteAt km_RX5_72 kd_X1_byteAt rfl (zlt hn rfl) sh_29 (q := (RX1, TX1, 2)) rfl rfl (zFits_rm d n n n (Nat.le_refl n)) (Nat.le_of_ble_eq_true rfl) rfl k8 h10 ?_
    rintro _ σ12 k13 ⟨v11, rfl, h14, h15⟩
    change Zm _ _ _ _ _ _ 31 _ [iV v11] _
    refine r_bipush dX5_pointIn_31 rfl ?_
    refine r_isub dX5_pointIn_33 ?_
    refine r_istore dX5_pointIn_34 rfl rfl ?_
    refine r_iload_n dX5_pointIn_36 rfl ?_
    obtain ⟨h16, h17⟩ := h15
    refine r_if_lt (t := 68) dX5_pointIn_37 rfl h16  (fun c18 => ?_) (fun c19 => ?_)
    · have h20 := h17.1 c18
      refine r_iconst dX5_pointIn_68 ?_
      exact r_ireturn dX5_pointIn_69 rfl ⟨k13, _, rfl, (r32c rfl), h20⟩
    · have h21 := h17.2 c19
      refine r_iload_n dX5_pointIn_40 rfl ?_
      refine r_aload_n dX5_pointIn_41 rfl ?_
      obtain ⟨t22, h23, h24, h25⟩ := h21
      refine r_getP (a := t22) dX5_pointIn_42 kf_RX5_61 (zlt hn rfl) sh_49 rfl h23 ?_
      refine r_getI dX5_pointIn_45 kf_RX5_157 (zT_lt h24 hn) (zT_s h24) (Or.inl rfl) rfl ?_
      refine r_icmp_ge (t := 68) dX5_pointIn_48 rfl h16 (k13.2.1 _ _) (fun c26 => ?_) (fun c27 => ?_)
      · have h28 := h25.1 c26
        refine r_iconst dX5_pointIn_68 ?_
        exact r_ireturn dX5_pointIn_69 rfl ⟨k13, _, rfl, (r32c rfl), h28⟩
      · have h29 := h25.2 c27
        refine r_iload dX5_pointIn_51 rfl ?_
        obtain ⟨h30, h31⟩ := h29
        refine r_if_lt (t := 68) dX5_pointIn_53 rfl h30  (fun c32 => ?_) (fun c33 => ?_)
        · have h34 := h31.1 c32
          refine r_iconst dX5_pointIn_68 ?_
          exact r_ireturn dX5_pointIn_69 rfl ⟨k13, _, rfl, (r32c rfl), h34⟩
        · have h35 := h31.2 c33
          refine r_iload dX5_pointIn_56 rfl ?_
          refine r_aload_n dX5_pointIn_58 rfl ?_
          refine r_getP (a := t22) dX5_pointIn_59 kf_RX5_61 (zlt hn rfl) sh_49 rfl h23 ?_
          refine r_getI dX5_pointIn_62 kf_RX5_157 (zT_lt h24 hn) (zT_s h24) (Or.inl rfl) rfl ?_
          refine r_icmp_lt (t := 70) dX5_pointIn_65 rfl h30 (k13.2.1 _ _) (fun c36 => ?_) (fun c37 => ?_)
          · have h38 := h35.1 c36
            refine r_iload dX5_pointIn_70 rfl ?_
            refine r_aload_n dX5_pointIn_72 rfl ?_
            refine r_getP (a := t22) dX5_pointIn_73 kf_RX5_61 (zlt hn rfl) sh_49 rfl h23 ?_
            refine r_getI dX5_pointIn_76 kf_RX5_157 (zT_lt h24 hn) (zT_s h24) (Or.inl rfl) rfl ?_
            refine r_imul dX5_pointIn_79 ?_
            refine r_iload_n dX5_pointIn_80 rfl ?_
            refine r_iadd dX5_pointIn_81 ?_
            obtain ⟨h39, h40⟩ := h38
            exact r_ireturn dX5_pointIn_82 rfl ⟨k13, _, rfl, h39, h40⟩
          · have h41 := h35.2 c37
            refine r_iconst dX5_pointIn_68 ?_
            exact r_ireturn dX5_pointIn_69 rfl ⟨k13, _, rfl, (r32c rfl), h41⟩
  · have h42 := h2.2 c4
    refine r_iconst dX5_pointIn_7 ?_
    exact r_ireturn dX5_pointIn_8 rfl ⟨k0, _, rfl, (r32c rfl), h42⟩
/-! StoneRoom$Reader.layBoardBehind -/
theorem dX5_layBoardBehind_0 : decode M_X5_layBoardBehind.2.1 0 = .ok (.aload_n 0, 1) := by decide +kernel
theorem dX5_layBoardBehind_1 : decode M_X5_layBoardBehind.2.1 1 = .ok (.getfield 57, 3) := by decide +kernel
theorem dX5_layBoardBehind_4 : decode M_X5_layBoardBehind.2.1 4 = .ok (.aload_n 0, 1) := by decide +kernel
theorem dX5_layBoardBehind_5 : decode M_X5_layBoardBehind.2.1 5 = .ok (.getfield 61, 3) := by decide +kernel
theorem dX5_layBoardBehind_8 : decode M_X5_layBoardBehind.2.1 8 = .ok (.getfield 157, 3) := by decide +kernel
theorem dX5_layBoardBehind_11 : decode M_X5_layBoardBehind.2.1 11 = .ok (.invokevirtual 170, 3) := by decide +kernel
theorem dX5_layBoardBehind_14 : decode M_X5_layBoardBehind.2.1 14 = .ok (.aload_n 0, 1) := by decide +kernel
theorem dX5_layBoardBehind_15 : decode M_X5_layBoardBehind.2.1 15 = .ok (.getfield 61, 3) := by decide +kernel
theorem dX5_layBoardBehind_18 : decode M_X5_layBoardBehind.2.1 18 = .ok (.aload_n 0, 1) := by decide +kernel
theorem dX5_layBoardBehind_19 : decode M_X5_layBoardBehind.2.1 19 = .ok (.getfield 38, 3) := by decide +kernel
theorem dX5_layBoardBehind_22 : decode M_X5_layBoardBehind.2.1 22 = .ok (.invokevirtual 176, 3) := by decide +kernel
theorem dX5_layBoardBehind_25 : decode M_X5_layBoardBehind.2.1 25 = .ok (.ifCond .eq 23, 3) := by decide +kernel
theorem dX5_layBoardBehind_28 : decode M_X5_layBoardBehind.2.1 28 = .ok (.aload_n 0, 1) := by decide +kernel
theorem dX5_layBoardBehind_29 : decode M_X5_layBoardBehind.2.1 29 = .ok (.getfield 57, 3) := by decide +kernel
theorem dX5_layBoardBehind_32 : decode M_X5_layBoardBehind.2.1 32 = .ok (.aload_n 0, 1) := by decide +kernel
theorem dX5_layBoardBehind_33 : decode M_X5_layBoardBehind.2.1 33 = .ok (.getfield 61, 3) := by decide +kernel
theorem dX5_layBoardBehind_36 : decode M_X5_layBoardBehind.2.1 36 = .ok (.getfield 179, 3) := by decide +kernel
theorem dX5_layBoardBehind_39 : decode M_X5_layBoardBehind.2.1 39 = .ok (.aload_n 0, 1) := by decide +kernel
theorem dX5_layBoardBehind_40 : decode M_X5_layBoardBehind.2.1 40 = .ok (.getfield 38, 3) := by decide +kernel
theorem dX5_layBoardBehind_43 : decode M_X5_layBoardBehind.2.1 43 = .ok (.iconst 3, 1) := by decide +kernel
theorem dX5_layBoardBehind_44 : decode M_X5_layBoardBehind.2.1 44 = .ok (.imul, 1) := by decide +kernel
theorem dX5_layBoardBehind_45 : decode M_X5_layBoardBehind.2.1 45 = .ok (.invokevirtual 182, 3) := by decide +kernel
theorem dX5_layBoardBehind_48 : decode M_X5_layBoardBehind.2.1 48 = .ok (.return_, 1) := by decide +kernel
theorem w_X5_layBoardBehind {X : ZX} {d n : Nat} {P : ZSto → Prop}  {σ : ZSto} (hn : 73 ≤ n)  
    (h : (∃ t1, gP σ 49 4 = some t1 ∧ zIsT t1 ∧ ZkV X M_X0_shape d n [.ref (zB X + 41), iV (gI σ t1 13)] σ (fun σ6 => (∃ t10, gP σ6 49 4 = some t10 ∧ zIsT t10 ∧ ZkZ X M_X7_has d n [.ref (zB X + t10), iV (gI σ6 49 11)] σ6 (fun v14 σ15 => (v14 = 0 → P σ15) ∧ (¬ (v14 = 0) → (∃ t23, gP σ15 49 4 = some t23 ∧ zIsT t23 ∧ ZkV X M_X0_load d n [.ref (zB X + 41), .ref (zB X + (t23 + 12)), iV ((gI σ15 49 11) * 3)] σ15 (fun σ28 => P σ28)))))))) :
    ZkV X M_X5_layBoardBehind (d + 1) n [.ref (zB X + 49)] σ P := by
  refine zk_of (ls := [some (.ref (zB X + 49))]) pl_RX5 (Nat.le_of_ble_eq_true rfl) rfl (fun k0 => ?_)
  unfold Zn
  refine r_aload_n dX5_layBoardBehind_0 rfl ?_
  refine r_getP (a := 41) dX5_layBoardBehind_1 kf_RX5_57 (zlt hn rfl) sh_49 rfl (k0.1 _ _ _ (zlt hn rfl) p_49_1) ?_
  refine r_aload_n dX5_layBoardBehind_4 rfl ?_
  obtain ⟨t1, h2, h3, h4⟩ := h
  refine r_getP (a := t1) dX5_layBoardBehind_5 kf_RX5_61 (zlt hn rfl) sh_49 rfl h2 ?_
  refine r_getI dX5_layBoardBehind_8 kf_RX5_157 (zT_lt h3 hn) (zT_s h3) (Or.inl rfl) rfl ?_
  refine n_callV (N := M_X0_shape) (As := [iV (gI σ t1 13)]) (st := []) dX5_layBoardBehind_11 mk_X0_shape km_RX5_170 kd_X0_shape rfl (zlt hn rfl) sh_41 (q := (RX0, TX0, 13)) rfl rfl (zFits_rm d n n n (Nat.le_refl n)) (Nat.le_of_ble_eq_true rfl) rfl k0 h4 ?_
  rintro _ σ6 k7 ⟨rfl, h9⟩
  change Zm _ _ _ _ _ _ 14 _ [] _
  refine r_aload_n dX5_layBoardBehind_14 rfl ?_
  obtain ⟨t10, h11, h12, h13⟩ := h9
  refine r_getP (a := t10) dX5_layBoardBehind_15 kf_RX5_61 (zlt hn rfl) sh_49 rfl h11 ?_
  refine r_aload_n dX5_layBoardBehind_18 rfl ?_
  refine r_getI dX5_layBoardBehind_19 kf_RX5_38 (zlt hn rfl) sh_49 (Or.inl rfl) rfl ?_
  refine n_callV (N := M_X7_has) (As := [iV (gI σ6 49 11)]) (st := []) dX5_layBoardBehind_22 mk_X7_has km_RX5_176 kd_X7_has rfl (zT_lt h12 hn) (zT_s h12) (q := (RX7, TX7, 17)) rfl rfl (zFits_rm d n n n (Nat.le_refl n)) (Nat.le_of_ble_eq_true rfl) rfl k7 h13 ?_
  rintro _ σ15 k16 ⟨v14, rfl, h17, h18⟩
  change Zm _ _ _ _ _ _ 25 _ [iV v14] _
  refine r_if_eq (t := 48) dX5_layBoardBehind_25 rfl (r32_z h17)  (fun c19 => ?_) (fun c20 => ?_)
  · have h21 := h18.1 c19
    exact r_return dX5_layBoardBehind_48 rfl ⟨k16, rfl, h21⟩
  · have h22 := h18.2 c20
    refine r_aload_n dX5_layBoardBehind_28 rfl ?_
    refine r_getP (a := 41) dX5_layBoardBehind_29 kf_RX5_57 (zlt hn rfl) sh_49 rfl (k16.1 _ _ _ (zlt hn rfl) p_49_1) ?_
    refine r_aload_n dX5_layBoardBehind_32 rfl ?_
    obtain ⟨t23, h24, h25, h26⟩ := h22
    refine r_getP (a := t23) dX5_layBoardBehind_33 kf_RX5_61 (zlt hn rfl) sh_49 rfl h24 ?_
    refine r_getP (a := (t23 + 12)) dX5_layBoardBehind_36 kf_RX5_179 (zT_lt h25 hn) (zT_s h25) rfl (k16.1 _ _ _ (zT_lt h25 hn) (zT_p11 h25)) ?_
    refine r_aload_n dX5_layBoardBehind_39 rfl ?_
    refine r_getI dX5_layBoardBehind_40 kf_RX5_38 (zlt hn rfl) sh_49 (Or.inl rfl) rfl ?_
    refine r_iconst dX5_layBoardBehind_43 ?_
    refine r_imul dX5_layBoardBehind_44 ?_
    refine n_callV (N := M_X0_load) (As := [.ref (zB X + (t23 + 12)), iV ((gI σ15 49 11) * 3)]) (st := []) dX5_layBoardBehind_45 mk_X0_load km_RX5_182 kd_X0_load rfl (zlt hn rfl) sh_41 (q := (RX0, TX0, 13)) rfl rfl (zFits_rm d n n n (Nat.le_refl n)) (Nat.le_of_ble_eq_true rfl) rfl k16 h26 ?_
    rintro _ σ28 k29 ⟨rfl, h31⟩
    change Zm _ _ _ _ _ _ 48 _ [] _
    exact r_return dX5_layBoardBehind_48 rfl ⟨k29, rfl, h31⟩
/-! StoneRoom$Reader.settleMove -/
theorem dX5_settleMove_0 : decode M_X5_settleMove.2.1 0 = .ok (.aload_n 0, 1) := by decide +kernel
theorem dX5_settleMove_1 : decode M_X5_settleMove.2.1 1 = .ok (.invokevirtual 186, 3) := by decide +kernel
theorem dX5_settleMove_4 : decode M_X5_settleMove.2.1 4 = .ok (.aload_n 0, 1) := by decide +kernel
theorem dX5_settleMove_5 : decode M_X5_settleMove.2.1 5 = .ok (.getfield 50, 3) := by decide +kernel
theorem dX5_settleMove_8 : decode M_X5_settleMove.2.1 8 = .ok (.iconst (-1), 1) := by decide +kernel
theorem dX5_settleMove_9 : decode M_X5_settleMove.2.1 9 = .ok (.if_icmp .eq 43, 3) := by decide +kernel
theorem dX5_settleMove_12 : decode M_X5_settleMove.2.1 12 = .ok (.aload_n 0, 1) := by decide +kernel
theorem dX5_settleMove_13 : decode M_X5_settleMove.2.1 13 = .ok (.getfield 61, 3) := by decide +kernel
theorem dX5_settleMove_16 : decode M_X5_settleMove.2.1 16 = .ok (.aload_n 0, 1) := by decide +kernel
theorem dX5_settleMove_17 : decode M_X5_settleMove.2.1 17 = .ok (.getfield 57, 3) := by decide +kernel
theorem dX5_settleMove_20 : decode M_X5_settleMove.2.1 20 = .ok (.aload_n 0, 1) := by decide +kernel
theorem dX5_settleMove_21 : decode M_X5_settleMove.2.1 21 = .ok (.getfield 38, 3) := by decide +kernel
theorem dX5_settleMove_24 : decode M_X5_settleMove.2.1 24 = .ok (.aload_n 0, 1) := by decide +kernel
theorem dX5_settleMove_25 : decode M_X5_settleMove.2.1 25 = .ok (.getfield 50, 3) := by decide +kernel
theorem dX5_settleMove_28 : decode M_X5_settleMove.2.1 28 = .ok (.aload_n 0, 1) := by decide +kernel
theorem dX5_settleMove_29 : decode M_X5_settleMove.2.1 29 = .ok (.getfield 47, 3) := by decide +kernel
theorem dX5_settleMove_32 : decode M_X5_settleMove.2.1 32 = .ok (.aload_n 0, 1) := by decide +kernel
theorem dX5_settleMove_33 : decode M_X5_settleMove.2.1 33 = .ok (.getfield 19, 3) := by decide +kernel
theorem dX5_settleMove_36 : decode M_X5_settleMove.2.1 36 = .ok (.invokevirtual 189, 3) := by decide +kernel
theorem dX5_settleMove_39 : decode M_X5_settleMove.2.1 39 = .ok (.ifCond .eq 13, 3) := by decide +kernel
theorem dX5_settleMove_42 : decode M_X5_settleMove.2.1 42 = .ok (.aload_n 0, 1) := by decide +kernel
theorem dX5_settleMove_43 : decode M_X5_settleMove.2.1 43 = .ok (.iconst 4, 1) := by decide +kernel
theorem dX5_settleMove_44 : decode M_X5_settleMove.2.1 44 = .ok (.aload_n 0, 1) := by decide +kernel
theorem dX5_settleMove_45 : decode M_X5_settleMove.2.1 45 = .ok (.getfield 41, 3) := by decide +kernel
theorem dX5_settleMove_48 : decode M_X5_settleMove.2.1 48 = .ok (.invokevirtual 87, 3) := by decide +kernel
theorem dX5_settleMove_51 : decode M_X5_settleMove.2.1 51 = .ok (.return_, 1) := by decide +kernel
theorem dX5_settleMove_52 : decode M_X5_settleMove.2.1 52 = .ok (.aload_n 0, 1) := by decide +kernel
theorem dX5_settleMove_53 : decode M_X5_settleMove.2.1 53 = .ok (.aload_n 0, 1) := by decide +kernel
theorem dX5_settleMove_54 : decode M_X5_settleMove.2.1 54 = .ok (.getfield 61, 3) := by decide +kernel
theorem dX5_settleMove_57 : decode M_X5_settleMove.2.1 57 = .ok (.aload_n 0, 1) := by decide +kernel
theorem dX5_settleMove_58 : decode M_X5_settleMove.2.1 58 = .ok (.getfield 38, 3) := by decide +kernel
theorem dX5_settleMove_61 : decode M_X5_settleMove.2.1 61 = .ok (.aload_n 0, 1) := by decide +kernel
theorem dX5_settleMove_62 : decode M_X5_settleMove.2.1 62 = .ok (.getfield 47, 3) := by decide +kernel
theorem dX5_settleMove_65 : decode M_X5_settleMove.2.1 65 = .ok (.aload_n 0, 1) := by decide +kernel
theorem dX5_settleMove_66 : decode M_X5_settleMove.2.1 66 = .ok (.getfield 50, 3) := by decide +kernel
theorem dX5_settleMove_69 : decode M_X5_settleMove.2.1 69 = .ok (.aload_n 0, 1) := by decide +kernel
theorem dX5_settleMove_70 : decode M_X5_settleMove.2.1 70 = .ok (.getfield 57, 3) := by decide +kernel
theorem dX5_settleMove_73 : decode M_X5_settleMove.2.1 73 = .ok (.invokevirtual 193, 3) := by decide +kernel
theorem dX5_settleMove_76 : decode M_X5_settleMove.2.1 76 = .ok (.putfield 38, 3) := by decide +kernel
theorem dX5_settleMove_79 : decode M_X5_settleMove.2.1 79 = .ok (.return_, 1) := by decide +kernel
theorem w_X5_settleMove {X : ZX} {d n : Nat} {P : ZSto → Prop}  {σ : ZSto} (hn : 73 ≤ n)  
    (h : ZkV X M_X5_layBoardBehind d n [.ref (zB X + 49)] σ (fun σ2 => (gI σ2 49 15 = (-1) → (∃ t9, gP σ2 49 4 = some t9 ∧ zIsT t9 ∧ ZkI X M_X7_addMove d n [.ref (zB X + t9), iV (gI σ2 49 11), iV (gI σ2 49 14), iV (gI σ2 49 15), .ref (zB X + 41)] σ2 (fun v13 σ14 => P (sI σ14 49 11 v13)))) ∧ (¬ (gI σ2 49 15 = (-1)) → (∃ t20, gP σ2 49 4 = some t20 ∧ zIsT t20 ∧ ZkI X M_X7_tryPlay d n [.ref (zB X + t20), .ref (zB X + 41), iV (gI σ2 49 11), iV (gI σ2 49 15), iV (gI σ2 49 14), iV (gI σ2 49 5)] σ2 (fun v24 σ25 => (v24 = 0 → (∃ t32, gP σ25 49 4 = some t32 ∧ zIsT t32 ∧ ZkI X M_X7_addMove d n [.ref (zB X + t32), iV (gI σ25 49 11), iV (gI σ25 49 14), iV (gI σ25 49 15), .ref (zB X + 41)] σ25 (fun v36 σ37 => P (sI σ37 49 11 v36)))) ∧ (¬ (v24 = 0) → ZkV X M_X5_fail d n [.ref (zB X + 49), iV 4, iV (gI σ25 49 12)] σ25 (fun σ44 => P σ44))))))) :
    ZkV X M_X5_settleMove (d + 1) n [.ref (zB X + 49)] σ P := by
  refine zk_of (ls := [some (.ref (zB X + 49))]) pl_RX5 (Nat.le_of_ble_eq_true rfl) rfl (fun k0 => ?_)
  unfold Zn
  refine r_aload_n dX5_settleMove_0 rfl ?_
  refine n_callV (N := M_X5_layBoardBehind) (As := []) (st := []) dX5_settleMove_1 mk_X5_layBoardBehind km_RX5_186 kd_X5_layBoardBehind rfl (zlt hn rfl) sh_49 (q := (RX5, TX5, 16)) rfl rfl (zFits_rm d n n n (Nat.le_refl n)) (Nat.le_of_ble_eq_true rfl) rfl k0 h ?_
  rintro _ σ2 k3 ⟨rfl, h5⟩
  change Zm _ _ _ _ _ _ 4 _ [] _
  refine r_aload_n dX5_settleMove_4 rfl ?_
  refine r_getI dX5_settleMove_5 kf_RX5_50 (zlt hn rfl) sh_49 (Or.inl rfl) rfl ?_
  refine r_iconst dX5_settleMove_8 ?_
  refine r_icmp_eq (t := 52) dX5_settleMove_9 rfl (k3.2.1 _ _) (r32c rfl) (fun c6 => ?_) (fun c7 => ?_)
  · have h8 := h5.1 c6
    refine r_aload_n dX5_settleMove_52 rfl ?_
    refine r_aload_n dX5_settleMove_53 rfl ?_
    obtain ⟨t9, h10, h11, h12⟩ := h8
    refine r_getP (a := t9) dX5_settleMove_54 kf_RX5_61 (zlt hn rfl) sh_49 rfl h10 ?_
    refine r_aload_n dX5_settleMove_57 rfl ?_
    refine r_getI dX5_settleMove_58 kf_RX5_38 (zlt hn rfl) sh_49 (Or.inl rfl) rfl ?_
    refine r_aload_n dX5_settleMove_61 rfl ?_
    refine r_getI dX5_settleMove_62 kf_RX5_47 (zlt hn rfl) sh_49 (Or.inl rfl) rfl ?_
    refine r_aload_n dX5_settleMove_65 rfl ?_
    refine r_getI dX5_settleMove_66 kf_RX5_50 (zlt hn rfl) sh_49 (Or.inl rfl) rfl ?_
    refine r_aload_n dX5_settleMove_69 rfl ?_
    refine r_getP (a := 41) dX5_settleMove_70 kf_RX5_57 (zlt hn rfl) sh_49 rfl (k3.1 _ _ _ (zlt hn rfl) p_49_1) ?_
    refine n_callV (N := M_X7_addMove) (As := [iV (gI σ2 49 11), iV (gI σ2 49 14), iV (gI σ2 49 15), .ref (zB X + 41)]) (st := [.ref (zB X + 49)]) dX5_settleMove_73 mk_X7_addMove km_RX5_193 kd_X7_addMove rfl (zT_lt h11 hn) (zT_s h11) (q := (RX7, TX7, 17)) rfl rfl (zFits_rm d n n n (Nat.le_refl n)) (Nat.le_of_ble_eq_true rfl) rfl k3 h12 ?_
    rintro _ σ14 k15 ⟨v13, rfl, h16, h17⟩
    change Zm _ _ _ _ _ _ 76 _ [iV v13, .ref (zB X + 49)] _
    refine r_putI dX5_settleMove_76 kf_RX5_38 (zlt hn rfl) sh_49 rfl (Or.inl rfl) ?_
    have k18 := zok_o (i := 11) (x := v13) k15 sh_49 h16
    exact r_return dX5_settleMove_79 rfl ⟨k18, rfl, h17⟩
  · have h19 := h5.2 c7
    refine r_aload_n dX5_settleMove_12 rfl ?_
    obtain ⟨t20, h21, h22, h23⟩ := h19
    refine r_getP (a := t20) dX5_settleMove_13 kf_RX5_61 (zlt hn rfl) sh_49 rfl h21 ?_
    refine r_aload_n dX5_settleMove_16 rfl ?_
    refine r_getP (a := 41) dX5_settleMove_17 kf_RX5_57 (zlt hn rfl) sh_49 rfl (k3.1 _ _ _ (zlt hn rfl) p_49_1) ?_
    refine r_aload_n dX5_settleMove_20 rfl ?_
    refine r_getI dX5_settleMove_21 kf_RX5_38 (zlt hn rfl) sh_49 (Or.inl rfl) rfl ?_
    refine r_aload_n dX5_settleMove_24 rfl ?_
    refine r_getI dX5_settleMove_25 kf_RX5_50 (zlt hn rfl) sh_49 (Or.inl rfl) rfl ?_
    refine r_aload_n dX5_settleMove_28 rfl ?_
    refine r_getI dX5_settleMove_29 kf_RX5_47 (zlt hn rfl) sh_49 (Or.inl rfl) rfl ?_
    refine r_aload_n dX5_settleMove_32 rfl ?_
    refine r_getI dX5_settleMove_33 kf_RX5_19 (zlt hn rfl) sh_49 (Or.inl rfl) rfl ?_
    refine n_callV (N := M_X7_tryPlay) (As := [.ref (zB X + 41), iV (gI σ2 49 11), iV (gI σ2 49 15), iV (gI σ2 49 14), iV (gI σ2 49 5)]) (st := []) dX5_settleMove_36 mk_X7_tryPlay km_RX5_189 kd_X7_tryPlay rfl (zT_lt h22 hn) (zT_s h22) (q := (RX7, TX7, 17)) rfl rfl (zFits_rm d n n n (Nat.le_refl n)) (Nat.le_of_ble_eq_true rfl) rfl k3 h23 ?_
    rintro _ σ25 k26 ⟨v24, rfl, h27, h28⟩
    change Zm _ _ _ _ _ _ 39 _ [iV v24] _
    refine r_if_eq (t := 52) dX5_settleMove_39 rfl h27  (fun c29 => ?_) (fun c30 => ?_)
    · have h31 := h28.1 c29
      refine r_aload_n dX5_settleMove_52 rfl ?_
      refine r_aload_n dX5_settleMove_53 rfl ?_
      obtain ⟨t32, h33, h34, h35⟩ := h31
      refine r_getP (a := t32) dX5_settleMove_54 kf_RX5_61 (zlt hn rfl) sh_49 rfl h33 ?_
      refine r_aload_n dX5_settleMove_57 rfl ?_
      refine r_getI dX5_settleMove_58 kf_RX5_38 (zlt hn rfl) sh_49 (Or.inl rfl) rfl ?_
      refine r_aload_n dX5_settleMove_61 rfl ?_
      refine r_getI dX5_settleMove_62 kf_RX5_47 (zlt hn rfl) sh_49 (Or.inl rfl) rfl ?_
      refine r_aload_n dX5_settleMove_65 rfl ?_
      refine r_getI dX5_settleMove_66 kf_RX5_50 (zlt hn rfl) sh_49 (Or.inl rfl) rfl ?_
      refine r_aload_n dX5_settleMove_69 rfl ?_
      refine r_getP (a := 41) dX5_settleMove_70 kf_RX5_57 (zlt hn rfl) sh_49 rfl (k26.1 _ _ _ (zlt hn rfl) p_49_1) ?_
      refine n_callV (N := M_X7_addMove) (As := [iV (gI σ25 49 11), iV (gI σ25 49 14), iV (gI σ25 49 15), .ref (zB X + 41)]) (st := [.ref (zB X + 49)]) dX5_settleMove_73 mk_X7_addMove km_RX5_193 kd_X7_addMove rfl (zT_lt h34 hn) (zT_s h34) (q := (RX7, TX7, 17)) rfl rfl (zFits_rm d n n n (Nat.le_refl n)) (Nat.le_of_ble_eq_true rfl) rfl k26 h35 ?_
      rintro _ σ37 k38 ⟨v36, rfl, h39, h40⟩
      change Zm _ _ _ _ _ _ 76 _ [iV v36, .ref (zB X + 49)] _
      refine r_putI dX5_settleMove_76 kf_RX5_38 (zlt hn rfl) sh_49 rfl (Or.inl rfl) ?_
      have k41 := zok_o (i := 11) (x := v36) k38 sh_49 h39
      exact r_return dX5_settleMove_79 rfl ⟨k41, rfl, h40⟩
    · have h42 := h28.2 c30
      refine r_aload_n dX5_settleMove_42 rfl ?_
      refine r_iconst dX5_settleMove_43 ?_
      refine r_aload_n dX5_settleMove_44 rfl ?_
      refine r_getI dX5_settleMove_45 kf_RX5_41 (zlt hn rfl) sh_49 (Or.inl rfl) rfl ?_
      refine n_callV (N := M_X5_fail) (As := [iV 4, iV (gI σ25 49 12)]) (st := []) dX5_settleMove_48 mk_X5_fail km_RX5_87 kd_X5_fail rfl (zlt hn rfl) sh_49 (q := (RX5, TX5, 16)) rfl rfl (zFits_rm d n n n (Nat.le_refl n)) (Nat.le_of_ble_eq_true rfl) rfl k26 h42 ?_
      rintro _ σ44 k45 ⟨rfl, h47⟩
      change Zm _ _ _ _ _ _ 51 _ [] _
      exact r_return dX5_settleMove_51 rfl ⟨k45, rfl, h47⟩
/-! StoneRoom$Reader.settleSets -/
theorem dX5_settleSets_0 : decode M_X5_settleSets.2.1 0 = .ok (.aload_n 0, 1) := by decide +kernel
theorem dX5_settleSets_1 : decode M_X5_settleSets.2.1 1 = .ok (.invokevirtual 186, 3) := by decide +kernel
theorem dX5_settleSets_4 : decode M_X5_settleSets.2.1 4 = .ok (.iconst 0, 1) := by decide +kernel
theorem dX5_settleSets_5 : decode M_X5_settleSets.2.1 5 = .ok (.istore_n 1, 1) := by decide +kernel
theorem dX5_settleSets_6 : decode M_X5_settleSets.2.1 6 = .ok (.iload_n 1, 1) := by decide +kernel
theorem dX5_settleSets_7 : decode M_X5_settleSets.2.1 7 = .ok (.aload_n 0, 1) := by decide +kernel
theorem dX5_settleSets_8 : decode M_X5_settleSets.2.1 8 = .ok (.getfield 57, 3) := by decide +kernel
theorem dX5_settleSets_11 : decode M_X5_settleSets.2.1 11 = .ok (.getfield 197, 3) := by decide +kernel
theorem dX5_settleSets_14 : decode M_X5_settleSets.2.1 14 = .ok (.if_icmp .ge 41, 3) := by decide +kernel
theorem dX5_settleSets_17 : decode M_X5_settleSets.2.1 17 = .ok (.aload_n 0, 1) := by decide +kernel
theorem dX5_settleSets_18 : decode M_X5_settleSets.2.1 18 = .ok (.getfield 15, 3) := by decide +kernel
theorem dX5_settleSets_21 : decode M_X5_settleSets.2.1 21 = .ok (.iconst 0, 1) := by decide +kernel
theorem dX5_settleSets_22 : decode M_X5_settleSets.2.1 22 = .ok (.iload_n 1, 1) := by decide +kernel
theorem dX5_settleSets_23 : decode M_X5_settleSets.2.1 23 = .ok (.invokestatic 166, 3) := by decide +kernel
theorem dX5_settleSets_26 : decode M_X5_settleSets.2.1 26 = .ok (.istore_n 2, 1) := by decide +kernel
theorem dX5_settleSets_27 : decode M_X5_settleSets.2.1 27 = .ok (.iload_n 2, 1) := by decide +kernel
theorem dX5_settleSets_28 : decode M_X5_settleSets.2.1 28 = .ok (.ifCond .eq 21, 3) := by decide +kernel
theorem dX5_settleSets_31 : decode M_X5_settleSets.2.1 31 = .ok (.aload_n 0, 1) := by decide +kernel
theorem dX5_settleSets_32 : decode M_X5_settleSets.2.1 32 = .ok (.getfield 57, 3) := by decide +kernel
theorem dX5_settleSets_35 : decode M_X5_settleSets.2.1 35 = .ok (.iload_n 1, 1) := by decide +kernel
theorem dX5_settleSets_36 : decode M_X5_settleSets.2.1 36 = .ok (.iload_n 2, 1) := by decide +kernel
theorem dX5_settleSets_37 : decode M_X5_settleSets.2.1 37 = .ok (.iconst 3, 1) := by decide +kernel
theorem dX5_settleSets_38 : decode M_X5_settleSets.2.1 38 = .ok (.if_icmp .ne 7, 3) := by decide +kernel
theorem dX5_settleSets_41 : decode M_X5_settleSets.2.1 41 = .ok (.iconst 0, 1) := by decide +kernel
theorem dX5_settleSets_42 : decode M_X5_settleSets.2.1 42 = .ok (.goto 4, 3) := by decide +kernel
theorem dX5_settleSets_45 : decode M_X5_settleSets.2.1 45 = .ok (.iload_n 2, 1) := by decide +kernel
theorem dX5_settleSets_46 : decode M_X5_settleSets.2.1 46 = .ok (.invokevirtual 200, 3) := by decide +kernel
theorem dX5_settleSets_49 : decode M_X5_settleSets.2.1 49 = .ok (.iinc 1 1, 3) := by decide +kernel
theorem dX5_settleSets_52 : decode M_X5_settleSets.2.1 52 = .ok (.goto (-46), 3) := by decide +kernel
theorem dX5_settleSets_55 : decode M_X5_settleSets.2.1 55 = .ok (.aload_n 0, 1) := by decide +kernel
theorem dX5_settleSets_56 : decode M_X5_settleSets.2.1 56 = .ok (.getfield 57, 3) := by decide +kernel
theorem dX5_settleSets_59 : decode M_X5_settleSets.2.1 59 = .ok (.invokevirtual 203, 3) := by decide +kernel
theorem dX5_settleSets_62 : decode M_X5_settleSets.2.1 62 = .ok (.ifCond .ne 13, 3) := by decide +kernel
theorem dX5_settleSets_65 : decode M_X5_settleSets.2.1 65 = .ok (.aload_n 0, 1) := by decide +kernel
theorem dX5_settleSets_66 : decode M_X5_settleSets.2.1 66 = .ok (.iconst 5, 1) := by decide +kernel
theorem dX5_settleSets_67 : decode M_X5_settleSets.2.1 67 = .ok (.aload_n 0, 1) := by decide +kernel
theorem dX5_settleSets_68 : decode M_X5_settleSets.2.1 68 = .ok (.getfield 41, 3) := by decide +kernel
theorem dX5_settleSets_71 : decode M_X5_settleSets.2.1 71 = .ok (.invokevirtual 87, 3) := by decide +kernel
theorem dX5_settleSets_74 : decode M_X5_settleSets.2.1 74 = .ok (.return_, 1) := by decide +kernel
theorem dX5_settleSets_75 : decode M_X5_settleSets.2.1 75 = .ok (.aload_n 0, 1) := by decide +kernel
theorem dX5_settleSets_76 : decode M_X5_settleSets.2.1 76 = .ok (.aload_n 0, 1) := by decide +kernel
theorem dX5_settleSets_77 : decode M_X5_settleSets.2.1 77 = .ok (.getfield 61, 3) := by decide +kernel
theorem dX5_settleSets_80 : decode M_X5_settleSets.2.1 80 = .ok (.aload_n 0, 1) := by decide +kernel
theorem dX5_settleSets_81 : decode M_X5_settleSets.2.1 81 = .ok (.getfield 38, 3) := by decide +kernel
theorem dX5_settleSets_84 : decode M_X5_settleSets.2.1 84 = .ok (.aload_n 0, 1) := by decide +kernel
theorem dX5_settleSets_85 : decode M_X5_settleSets.2.1 85 = .ok (.invokevirtual 207, 3) := by decide +kernel
theorem dX5_settleSets_88 : decode M_X5_settleSets.2.1 88 = .ok (.aload_n 0, 1) := by decide +kernel
theorem dX5_settleSets_89 : decode M_X5_settleSets.2.1 89 = .ok (.getfield 57, 3) := by decide +kernel
theorem dX5_settleSets_92 : decode M_X5_settleSets.2.1 92 = .ok (.invokevirtual 211, 3) := by decide +kernel
theorem dX5_settleSets_95 : decode M_X5_settleSets.2.1 95 = .ok (.putfield 38, 3) := by decide +kernel
theorem dX5_settleSets_98 : decode M_X5_settleSets.2.1 98 = .ok (.aload_n 0, 1) := by decide +kernel
theorem dX5_settleSets_99 : decode M_X5_settleSets.2.1 99 = .ok (.getfield 61, 3) := by decide +kernel
theorem dX5_settleSets_102 : decode M_X5_settleSets.2.1 102 = .ok (.aload_n 0, 1) := by decide +kernel
theorem dX5_settleSets_103 : decode M_X5_settleSets.2.1 103 = .ok (.getfield 38, 3) := by decide +kernel
theorem dX5_settleSets_106 : decode M_X5_settleSets.2.1 106 = .ok (.aload_n 0, 1) := by decide +kernel
theorem dX5_settleSets_107 : decode M_X5_settleSets.2.1 107 = .ok (.getfield 15, 3) := by decide +kernel
theorem dX5_settleSets_110 : decode M_X5_settleSets.2.1 110 = .ok (.invokevirtual 215, 3) := by decide +kernel
theorem dX5_settleSets_113 : decode M_X5_settleSets.2.1 113 = .ok (.return_, 1) := by decide +kernel
def L_X5_settleSets_6 (X : ZX) (d n : Nat) (P : Option Value → ZSto → Prop) (x1 : Int) (σ : ZSto) : Prop := R32 x1 → ZOk n σ → Zn X M_X5_settleSets d n P 6 [some (.ref (zB X + 49)), some (iV x1), none] [] σ
theorem w_X5_settleSets {X : ZX} {d n : Nat} {P : ZSto → Prop}  {σ : ZSto} (hn : 73 ≤ n)  
    (h : ZkV X M_X5_layBoardBehind d n [.ref (zB X + 49)] σ (fun σ2 => L_X5_settleSets_6 X d n (zpV P) 0 σ2)) :
    ZkV X M_X5_settleSets (d + 1) n [.ref (zB X + 49)] σ P := by
  refine zk_of (ls := [some (.ref (zB X + 49)), none, none]) pl_RX5 (Nat.le_of_ble_eq_true rfl) rfl (fun k0 => ?_)
  unfold Zn
  refine r_aload_n dX5_settleSets_0 rfl ?_
  refine n_callV (N := M_X5_layBoardBehind) (As := []) (st := []) dX5_settleSets_1 mk_X5_layBoardBehind km_RX5_186 kd_X5_layBoardBehind rfl (zlt hn rfl) sh_49 (q := (RX5, TX5, 16)) rfl rfl (zFits_rm d n n n (Nat.le_refl n)) (Nat.le_of_ble_eq_true rfl) rfl k0 h ?_
  rintro _ σ2 k3 ⟨rfl, h5⟩
  change Zm _ _ _ _ _ _ 4 _ [] _
  refine r_iconst dX5_settleSets_4 ?_
  refine r_istore_n dX5_settleSets_5 rfl rfl ?_
  exact r_mask [true, true, false] rfl (h5 (r32c rfl) k3)
theorem b_X5_settleSets_6 {X : ZX} {d n : Nat} {P : ZSto → Prop} {x1 : Int} {σ : ZSto} (hn : 73 ≤ n) 
    (h : (gI σ 41 8 ≤ x1 → ZkZ X M_X0_allBreathe d n [.ref (zB X + 41)] σ (fun v4 σ5 => (¬ v4 = 0 → (∃ t12, gP σ5 49 4 = some t12 ∧ zIsT t12 ∧ ZkI X M_X5_turnBehindSets d n [.ref (zB X + 49)] σ5 (fun v16 σ17 => ZkI X M_X7_addSets d n [.ref (zB X + t12), iV (gI σ5 49 11), iV v16, .ref (zB X + 41)] σ17 (fun v21 σ22 => (∃ t27, gP σ22 49 4 = some t27 ∧ zIsT t27 ∧ ZkV X M_X7_copySettings d n [.ref (zB X + t27), iV v21, .ref (zB X + 51)] (sI σ22 49 11 v21) (fun σ32 => P σ32)))))) ∧ (v4 = 0 → ZkV X M_X5_fail d n [.ref (zB X + 49), iV 5, iV (gI σ5 49 12)] σ5 (fun σ38 => P σ38)))) ∧ (¬ (gI σ 41 8 ≤ x1) → ZkI X M_X9_pairAt d n [.ref (zB X + 51), iV 0, iV x1] σ (fun v43 σ44 => (v43 = 0 → R32 (x1 + 1) ∧ L_X5_settleSets_6 X d n (zpV P) (x1 + 1) σ44) ∧ (¬ (v43 = 0) → (¬ v43 = 3 → ZkV X M_X0_lay d n [.ref (zB X + 41), iV x1, iV v43] σ44 (fun σ58 => R32 (x1 + 1) ∧ L_X5_settleSets_6 X d n (zpV P) (x1 + 1) σ58)) ∧ (v43 = 3 → ZkV X M_X0_lay d n [.ref (zB X + 41), iV x1, iV 0] σ44 (fun σ66 => R32 (x1 + 1) ∧ L_X5_settleSets_6 X d n (zpV P) (x1 + 1) σ66)))))) :
    L_X5_settleSets_6 X d n (zpV P) x1 σ := by
  intro hx1 k0
  unfold Zn
  refine r_iload_n dX5_settleSets_6 rfl ?_
  refine r_aload_n dX5_settleSets_7 rfl ?_
  refine r_getP (a := 41) dX5_settleSets_8 kf_RX5_57 (zlt hn rfl) sh_49 rfl (k0.1 _ _ _ (zlt hn rfl) p_49_1) ?_
  refine r_getI dX5_settleSets_11 kf_RX5_197 (zlt hn rfl) sh_41 (Or.inl rfl) rfl ?_
  refine r_icmp_ge (t := 55) dX5_settleSets_14 rfl hx1 (k0.2.1 _ _) (fun c1 => ?_) (fun c2 => ?_)
  · have h3 := h.1 c1
    refine r_aload_n dX5_settleSets_55 rfl ?_
    refine r_getP (a := 41) dX5_settleSets_56 kf_RX5_57 (zlt hn rfl) sh_49 rfl (k0.1 _ _ _ (zlt hn rfl) p_49_1) ?_
    refine n_callV (N := M_X0_allBreathe) (As := []) (st := []) dX5_settleSets_59 mk_X0_allBreathe km_RX5_203 kd_X0_allBreathe rfl (zlt hn rfl) sh_41 (q := (RX0, TX0, 13)) rfl rfl (zFits_rm d n n n (Nat.le_refl n)) (Nat.le_of_ble_eq_true rfl) rfl k0 h3 ?_
    rintro _ σ5 k6 ⟨v4, rfl, h7, h8⟩
    change Zm _ _ _ _ _ _ 62 _ [iV v4] _
    refine r_if_ne (t := 75) dX5_settleSets_62 rfl (r32_z h7)  (fun c9 => ?_) (fun c10 => ?_)
    · have h11 := h8.1 c9
      refine r_aload_n dX5_settleSets_75 rfl ?_
      refine r_aload_n dX5_settleSets_76 rfl ?_
      obtain ⟨t12, h13, h14, h15⟩ := h11
      refine r_getP (a := t12) dX5_settleSets_77 kf_RX5_61 (zlt hn rfl) sh_49 rfl h13 ?_
      refine r_aload_n dX5_settleSets_80 rfl ?_
      refine r_getI dX5_settleSets_81 kf_RX5_38 (zlt hn rfl) sh_49 (Or.inl rfl) rfl ?_
      refine r_aload_n dX5_settleSets_84 rfl ?_
      refine n_callV (N := M_X5_turnBehindSets) (As := []) (st := [iV (gI σ5 49 11), .ref (zB X + t12), .ref (zB X + 49)]) dX5_settleSets_85 mk_X5_turnBehindSets km_RX5_207 kd_X5_turnBehindSets rfl (zlt hn rfl) sh_49 (q := (RX5, TX5, 16)) rfl rfl (zFits_rm d n n n (Nat.le_refl n)) (Nat.le_of_ble_eq_true rfl) rfl k6 h15 ?_
      rintro _ σ17 k18 ⟨v16, rfl, h19, h20⟩
      change Zm _ _ _ _ _ _ 88 _ [iV v16, iV (gI σ5 49 11), .ref (zB X + t12), .ref (zB X + 49)] _
      refine r_aload_n dX5_settleSets_88 rfl ?_
      refine r_getP (a := 41) dX5_settleSets_89 kf_RX5_57 (zlt hn rfl) sh_49 rfl (k18.1 _ _ _ (zlt hn rfl) p_49_1) ?_
      refine n_callV (N := M_X7_addSets) (As := [iV (gI σ5 49 11), iV v16, .ref (zB X + 41)]) (st := [.ref (zB X + 49)]) dX5_settleSets_92 mk_X7_addSets km_RX5_211 kd_X7_addSets rfl (zT_lt h14 hn) (zT_s h14) (q := (RX7, TX7, 17)) rfl rfl (zFits_rm d n n n (Nat.le_refl n)) (Nat.le_of_ble_eq_true rfl) rfl k18 h20 ?_
      rintro _ σ22 k23 ⟨v21, rfl, h24, h25⟩
      change Zm _ _ _ _ _ _ 95 _ [iV v21, .ref (zB X + 49)] _
      refine r_putI dX5_settleSets_95 kf_RX5_38 (zlt hn rfl) sh_49 rfl (Or.inl rfl) ?_
      have k26 := zok_o (i := 11) (x := v21) k23 sh_49 h24
      refine r_aload_n dX5_settleSets_98 rfl ?_
      obtain ⟨t27, h28, h29, h30⟩ := h25
      refine r_getP (a := t27) dX5_settleSets_99 kf_RX5_61 (zlt hn rfl) sh_49 rfl h28 ?_
      refine r_aload_n dX5_settleSets_102 rfl ?_
      refine r_getI dX5_settleSets_103 kf_RX5_38 (zlt hn rfl) sh_49 (Or.inl rfl) (gI_same _ _ _ _) ?_
      refine r_aload_n dX5_settleSets_106 rfl ?_
      refine r_getP (a := 51) dX5_settleSets_107 kf_RX5_15 (zlt hn rfl) sh_49 rfl (k26.1 _ _ _ (zlt hn rfl) p_49_3) ?_
      refine n_callV (N := M_X7_copySettings) (As := [iV v21, .ref (zB X + 51)]) (st := []) dX5_settleSets_110 mk_X7_copySettings km_RX5_215 kd_X7_copySettings rfl (zT_lt h29 hn) (zT_s h29) (q := (RX7, TX7, 17)) rfl rfl (zFits_rm d n n n (Nat.le_refl n)) (Nat.le_of_ble_eq_true rfl) rfl k26 h30 ?_
      rintro _ σ32 k33 ⟨rfl, h35⟩
      change Zm _ _ _ _ _ _ 113 _ [] _
      exact r_return dX5_settleSets_113 rfl ⟨k33, rfl, h35⟩
    · have h36 := h8.2 c10
      refine r_aload_n dX5_settleSets_65 rfl ?_
      refine r_iconst dX5_settleSets_66 ?_
      refine r_aload_n dX5_settleSets_67 rfl ?_
      refine r_getI dX5_settleSets_68 kf_RX5_41 (zlt hn rfl) sh_49 (Or.inl rfl) rfl ?_
      refine n_callV (N := M_X5_fail) (As := [iV 5, iV (gI σ5 49 12)]) (st := []) dX5_settleSets_71 mk_X5_fail km_RX5_87 kd_X5_fail rfl (zlt hn rfl) sh_49 (q := (RX5, TX5, 16)) rfl rfl (zFits_rm d n n n (Nat.le_refl n)) (Nat.le_of_ble_eq_true rfl) rfl k6 h36 ?_
      rintro _ σ38 k39 ⟨rfl, h41⟩
      change Zm _ _ _ _ _ _ 74 _ [] _
      exact r_return dX5_settleSets_74 rfl ⟨k39, rfl, h41⟩
  · have h42 := h.2 c2
    refine r_aload_n dX5_settleSets_17 rfl ?_
    refine r_getP (a := 51) dX5_settleSets_18 kf_RX5_15 (zlt hn rfl) sh_49 rfl (k0.1 _ _ _ (zlt hn rfl) p_49_3) ?_
    refine r_iconst dX5_settleSets_21 ?_
    refine r_iload_n dX5_settleSets_22 rfl ?_
    refine n_callS (N := M_X9_pairAt) (As := [.ref (zB X + 51), iV 0, iV x1]) (st := []) dX5_settleSets_23 mk_X9_pairAt km_RX5_166 kd_X9_pairAt rfl (zFits_rm d n n n (Nat.le_refl n)) (Nat.le_of_ble_eq_true rfl) rfl k0 h42 ?_
    rintro _ σ44 k45 ⟨v43, rfl, h46, h47⟩
    change Zm _ _ _ _ _ _ 26 _ [iV v43] _
    refine r_istore_n dX5_settleSets_26 rfl rfl ?_
    refine r_iload_n dX5_settleSets_27 rfl ?_
    refine r_if_eq (t := 49) dX5_settleSets_28 rfl h46  (fun c48 => ?_) (fun c49 => ?_)
    · have h50 := h47.1 c48
      refine r_iinc dX5_settleSets_49 rfl rfl rfl ?_
      refine r_goto (t := 6) dX5_settleSets_52 rfl ?_
      obtain ⟨h51, h52⟩ := h50
      exact r_mask [true, true, false] rfl (h52 h51 k45)
    · have h53 := h47.2 c49
      refine r_aload_n dX5_settleSets_31 rfl ?_
      refine r_getP (a := 41) dX5_settleSets_32 kf_RX5_57 (zlt hn rfl) sh_49 rfl (k45.1 _ _ _ (zlt hn rfl) p_49_1) ?_
      refine r_iload_n dX5_settleSets_35 rfl ?_
      refine r_iload_n dX5_settleSets_36 rfl ?_
      refine r_iconst dX5_settleSets_37 ?_
      refine r_icmp_ne (t := 45) dX5_settleSets_38 rfl h46 (r32c rfl) (fun c54 => ?_) (fun c55 => ?_)
      · have h56 := h53.1 c54
        refine r_iload_n dX5_settleSets_45 rfl ?_
        refine n_callV (N := M_X0_lay) (As := [iV x1, iV v43]) (st := []) dX5_settleSets_46 mk_X0_lay km_RX5_200 kd_X0_lay rfl (zlt hn rfl) sh_41 (q := (RX0, TX0, 13)) rfl rfl (zFits_rm d n n n (Nat.le_refl n)) (Nat.le_of_ble_eq_true rfl) rfl k45 h56 ?_
        rintro _ σ58 k59 ⟨rfl, h61⟩
        change Zm _ _ _ _ _ _ 49 _ [] _
        refine r_iinc dX5_settleSets_49 rfl rfl rfl ?_
        refine r_goto (t := 6) dX5_settleSets_52 rfl ?_
        obtain ⟨h62, h63⟩ := h61
        exact r_mask [true, true, false] rfl (h63 h62 k59)
      · have h64 := h53.2 c55
        refine r_iconst dX5_settleSets_41 ?_
        refine r_goto (t := 46) dX5_settleSets_42 rfl ?_
        refine n_callV (N := M_X0_lay) (As := [iV x1, iV 0]) (st := []) dX5_settleSets_46 mk_X0_lay km_RX5_200 kd_X0_lay rfl (zlt hn rfl) sh_41 (q := (RX0, TX0, 13)) rfl rfl (zFits_rm d n n n (Nat.le_refl n)) (Nat.le_of_ble_eq_true rfl) rfl k45 h64 ?_
        rintro _ σ66 k67 ⟨rfl, h69⟩
        change Zm _ _ _ _ _ _ 49 _ [] _
        refine r_iinc dX5_settleSets_49 rfl rfl rfl ?_
        refine r_goto (t := 6) dX5_settleSets_52 rfl ?_
        obtain ⟨h70, h71⟩ := h69
        exact r_mask [true, true, false] rfl (h71 h70 k67)
/-! StoneRoom$Reader.turnBehindSets -/
theorem dX5_turnBehindSets_0 : decode M_X5_turnBehindSets.2.1 0 = .ok (.aload_n 0, 1) := by decide +kernel
theorem dX5_turnBehindSets_1 : decode M_X5_turnBehindSets.2.1 1 = .ok (.getfield 61, 3) := by decide +kernel
theorem dX5_turnBehindSets_4 : decode M_X5_turnBehindSets.2.1 4 = .ok (.aload_n 0, 1) := by decide +kernel
theorem dX5_turnBehindSets_5 : decode M_X5_turnBehindSets.2.1 5 = .ok (.getfield 38, 3) := by decide +kernel
theorem dX5_turnBehindSets_8 : decode M_X5_turnBehindSets.2.1 8 = .ok (.invokevirtual 176, 3) := by decide +kernel
theorem dX5_turnBehindSets_11 : decode M_X5_turnBehindSets.2.1 11 = .ok (.ifCond .eq 15, 3) := by decide +kernel
theorem dX5_turnBehindSets_14 : decode M_X5_turnBehindSets.2.1 14 = .ok (.aload_n 0, 1) := by decide +kernel
theorem dX5_turnBehindSets_15 : decode M_X5_turnBehindSets.2.1 15 = .ok (.getfield 61, 3) := by decide +kernel
theorem dX5_turnBehindSets_18 : decode M_X5_turnBehindSets.2.1 18 = .ok (.aload_n 0, 1) := by decide +kernel
theorem dX5_turnBehindSets_19 : decode M_X5_turnBehindSets.2.1 19 = .ok (.getfield 38, 3) := by decide +kernel
theorem dX5_turnBehindSets_22 : decode M_X5_turnBehindSets.2.1 22 = .ok (.invokevirtual 219, 3) := by decide +kernel
theorem dX5_turnBehindSets_25 : decode M_X5_turnBehindSets.2.1 25 = .ok (.ireturn, 1) := by decide +kernel
theorem dX5_turnBehindSets_26 : decode M_X5_turnBehindSets.2.1 26 = .ok (.aload_n 0, 1) := by decide +kernel
theorem dX5_turnBehindSets_27 : decode M_X5_turnBehindSets.2.1 27 = .ok (.getfield 44, 3) := by decide +kernel
theorem dX5_turnBehindSets_30 : decode M_X5_turnBehindSets.2.1 30 = .ok (.bipush 48, 2) := by decide +kernel
theorem dX5_turnBehindSets_32 : decode M_X5_turnBehindSets.2.1 32 = .ok (.iand, 1) := by decide +kernel
theorem dX5_turnBehindSets_33 : decode M_X5_turnBehindSets.2.1 33 = .ok (.bipush 16, 2) := by decide +kernel
theorem dX5_turnBehindSets_35 : decode M_X5_turnBehindSets.2.1 35 = .ok (.if_icmp .ne 7, 3) := by decide +kernel
theorem dX5_turnBehindSets_38 : decode M_X5_turnBehindSets.2.1 38 = .ok (.iconst 2, 1) := by decide +kernel
theorem dX5_turnBehindSets_39 : decode M_X5_turnBehindSets.2.1 39 = .ok (.goto 4, 3) := by decide +kernel
theorem dX5_turnBehindSets_42 : decode M_X5_turnBehindSets.2.1 42 = .ok (.iconst 1, 1) := by decide +kernel
theorem dX5_turnBehindSets_43 : decode M_X5_turnBehindSets.2.1 43 = .ok (.ireturn, 1) := by decide +kernel
theorem w_X5_turnBehindSets {X : ZX} {d n : Nat} {P : Int → ZSto → Prop}  {σ : ZSto} (hn : 73 ≤ n)  
    (h : (∃ t1, gP σ 49 4 = some t1 ∧ zIsT t1 ∧ ZkZ X M_X7_has d n [.ref (zB X + t1), iV (gI σ 49 11)] σ (fun v5 σ6 => (v5 = 0 → (¬ andI (gI σ6 49 13) 48 = 16 → P 1 σ6) ∧ (andI (gI σ6 49 13) 48 = 16 → P 2 σ6)) ∧ (¬ (v5 = 0) → (∃ t18, gP σ6 49 4 = some t18 ∧ zIsT t18 ∧ ZkI X M_X7_turnAt d n [.ref (zB X + t18), iV (gI σ6 49 11)] σ6 (fun v22 σ23 => P v22 σ23)))))) :
    ZkI X M_X5_turnBehindSets (d + 1) n [.ref (zB X + 49)] σ P := by
  refine zk_of (ls := [some (.ref (zB X + 49))]) pl_RX5 (Nat.le_of_ble_eq_true rfl) rfl (fun k0 => ?_)
  unfold Zn
  refine r_aload_n dX5_turnBehindSets_0 rfl ?_
  obtain ⟨t1, h2, h3, h4⟩ := h
  refine r_getP (a := t1) dX5_turnBehindSets_1 kf_RX5_61 (zlt hn rfl) sh_49 rfl h2 ?_
  refine r_aload_n dX5_turnBehindSets_4 rfl ?_
  refine r_getI dX5_turnBehindSets_5 kf_RX5_38 (zlt hn rfl) sh_49 (Or.inl rfl) rfl ?_
  refine n_callV (N := M_X7_has) (As := [iV (gI σ 49 11)]) (st := []) dX5_turnBehindSets_8 mk_X7_has km_RX5_176 kd_X7_has rfl (zT_lt h3 hn) (zT_s h3) (q := (RX7, TX7, 17)) rfl rfl (zFits_rm d n n n (Nat.le_refl n)) (Nat.le_of_ble_eq_true rfl) rfl k0 h4 ?_
  rintro _ σ6 k7 ⟨v5, rfl, h8, h9⟩
  change Zm _ _ _ _ _ _ 11 _ [iV v5] _
  refine r_if_eq (t := 26) dX5_turnBehindSets_11 rfl (r32_z h8)  (fun c10 => ?_) (fun c11 => ?_)
  · have h12 := h9.1 c10
    refine r_aload_n dX5_turnBehindSets_26 rfl ?_
    refine r_getI dX5_turnBehindSets_27 kf_RX5_44 (zlt hn rfl) sh_49 (Or.inl rfl) rfl ?_
    refine r_bipush dX5_turnBehindSets_30 rfl ?_
    refine r_iand dX5_turnBehindSets_32 ?_
    refine r_bipush dX5_turnBehindSets_33 rfl ?_
    refine r_icmp_ne (t := 42) dX5_turnBehindSets_35 rfl (r32_and _ _) (r32c rfl) (fun c13 => ?_) (fun c14 => ?_)
    · have h15 := h12.1 c13
      refine r_iconst dX5_turnBehindSets_42 ?_
      exact r_ireturn dX5_turnBehindSets_43 rfl ⟨k7, _, rfl, (r32c rfl), h15⟩
    · have h16 := h12.2 c14
      refine r_iconst dX5_turnBehindSets_38 ?_
      refine r_goto (t := 43) dX5_turnBehindSets_39 rfl ?_
      exact r_ireturn dX5_turnBehindSets_43 rfl ⟨k7, _, rfl, (r32c rfl), h16⟩
  · have h17 := h9.2 c11
    refine r_aload_n dX5_turnBehindSets_14 rfl ?_
    obtain ⟨t18, h19, h20, h21⟩ := h17
    refine r_getP (a := t18) dX5_turnBehindSets_15 kf_RX5_61 (zlt hn rfl) sh_49 rfl h19 ?_
    refine r_aload_n dX5_turnBehindSets_18 rfl ?_
    refine r_getI dX5_turnBehindSets_19 kf_RX5_38 (zlt hn rfl) sh_49 (Or.inl rfl) rfl ?_
    refine n_callV (N := M_X7_turnAt) (As := [iV (gI σ6 49 11)]) (st := []) dX5_turnBehindSets_22 mk_X7_turnAt km_RX5_219 kd_X7_turnAt rfl (zT_lt h20 hn) (zT_s h20) (q := (RX7, TX7, 17)) rfl rfl (zFits_rm d n n n (Nat.le_refl n)) (Nat.le_of_ble_eq_true rfl) rfl k7 h21 ?_
    rintro _ σ23 k24 ⟨v22, rfl, h25, h26⟩
    change Zm _ _ _ _ _ _ 25 _ [iV v22] _
    exact r_ireturn dX5_turnBehindSets_25 rfl ⟨k24, _, rfl, h25, h26⟩
