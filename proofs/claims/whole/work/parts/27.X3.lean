/-! StoneRoom$Ladder.readOut -/
theorem dX3_readOut_0 : decode M_X3_readOut.2.1 0 = .ok (.aload_n 0, 1) := by decide +kernel
theorem dX3_readOut_1 : decode M_X3_readOut.2.1 1 = .ok (.getfield 44, 3) := by decide +kernel
theorem dX3_readOut_4 : decode M_X3_readOut.2.1 4 = .ok (.aload_n 1, 1) := by decide +kernel
theorem dX3_readOut_5 : decode M_X3_readOut.2.1 5 = .ok (.invokevirtual 48, 3) := by decide +kernel
theorem dX3_readOut_8 : decode M_X3_readOut.2.1 8 = .ok (.aload_n 0, 1) := by decide +kernel
theorem dX3_readOut_9 : decode M_X3_readOut.2.1 9 = .ok (.iload_n 2, 1) := by decide +kernel
theorem dX3_readOut_10 : decode M_X3_readOut.2.1 10 = .ok (.putfield 28, 3) := by decide +kernel
theorem dX3_readOut_13 : decode M_X3_readOut.2.1 13 = .ok (.aload_n 0, 1) := by decide +kernel
theorem dX3_readOut_14 : decode M_X3_readOut.2.1 14 = .ok (.aload_n 1, 1) := by decide +kernel
theorem dX3_readOut_15 : decode M_X3_readOut.2.1 15 = .ok (.iload_n 2, 1) := by decide +kernel
theorem dX3_readOut_16 : decode M_X3_readOut.2.1 16 = .ok (.invokevirtual 54, 3) := by decide +kernel
theorem dX3_readOut_19 : decode M_X3_readOut.2.1 19 = .ok (.putfield 32, 3) := by decide +kernel
theorem dX3_readOut_22 : decode M_X3_readOut.2.1 22 = .ok (.aload_n 0, 1) := by decide +kernel
theorem dX3_readOut_23 : decode M_X3_readOut.2.1 23 = .ok (.iconst 0, 1) := by decide +kernel
theorem dX3_readOut_24 : decode M_X3_readOut.2.1 24 = .ok (.putfield 38, 3) := by decide +kernel
theorem dX3_readOut_27 : decode M_X3_readOut.2.1 27 = .ok (.aload_n 0, 1) := by decide +kernel
theorem dX3_readOut_28 : decode M_X3_readOut.2.1 28 = .ok (.iconst 0, 1) := by decide +kernel
theorem dX3_readOut_29 : decode M_X3_readOut.2.1 29 = .ok (.invokevirtual 58, 3) := by decide +kernel
theorem dX3_readOut_32 : decode M_X3_readOut.2.1 32 = .ok (.iconst 3, 1) := by decide +kernel
theorem dX3_readOut_33 : decode M_X3_readOut.2.1 33 = .ok (.istore_n 3, 1) := by decide +kernel
theorem dX3_readOut_34 : decode M_X3_readOut.2.1 34 = .ok (.iconst 0, 1) := by decide +kernel
theorem dX3_readOut_35 : decode M_X3_readOut.2.1 35 = .ok (.istore 4, 2) := by decide +kernel
theorem dX3_readOut_37 : decode M_X3_readOut.2.1 37 = .ok (.iload 4, 2) := by decide +kernel
theorem dX3_readOut_39 : decode M_X3_readOut.2.1 39 = .ok (.sipush 2400, 3) := by decide +kernel
theorem dX3_readOut_42 : decode M_X3_readOut.2.1 42 = .ok (.if_icmp .ge 19, 3) := by decide +kernel
theorem dX3_readOut_45 : decode M_X3_readOut.2.1 45 = .ok (.iload_n 3, 1) := by decide +kernel
theorem dX3_readOut_46 : decode M_X3_readOut.2.1 46 = .ok (.iconst 3, 1) := by decide +kernel
theorem dX3_readOut_47 : decode M_X3_readOut.2.1 47 = .ok (.if_icmp .ne 14, 3) := by decide +kernel
theorem dX3_readOut_50 : decode M_X3_readOut.2.1 50 = .ok (.aload_n 0, 1) := by decide +kernel
theorem dX3_readOut_51 : decode M_X3_readOut.2.1 51 = .ok (.invokevirtual 62, 3) := by decide +kernel
theorem dX3_readOut_54 : decode M_X3_readOut.2.1 54 = .ok (.istore_n 3, 1) := by decide +kernel
theorem dX3_readOut_55 : decode M_X3_readOut.2.1 55 = .ok (.iinc 4 1, 3) := by decide +kernel
theorem dX3_readOut_58 : decode M_X3_readOut.2.1 58 = .ok (.goto (-21), 3) := by decide +kernel
theorem dX3_readOut_61 : decode M_X3_readOut.2.1 61 = .ok (.aload_n 0, 1) := by decide +kernel
theorem dX3_readOut_62 : decode M_X3_readOut.2.1 62 = .ok (.iload_n 3, 1) := by decide +kernel
theorem dX3_readOut_63 : decode M_X3_readOut.2.1 63 = .ok (.iconst 1, 1) := by decide +kernel
theorem dX3_readOut_64 : decode M_X3_readOut.2.1 64 = .ok (.if_icmp .ne 12, 3) := by decide +kernel
theorem dX3_readOut_67 : decode M_X3_readOut.2.1 67 = .ok (.aload_n 0, 1) := by decide +kernel
theorem dX3_readOut_68 : decode M_X3_readOut.2.1 68 = .ok (.getfield 25, 3) := by decide +kernel
theorem dX3_readOut_71 : decode M_X3_readOut.2.1 71 = .ok (.iconst 0, 1) := by decide +kernel
theorem dX3_readOut_72 : decode M_X3_readOut.2.1 72 = .ok (.iaload, 1) := by decide +kernel
theorem dX3_readOut_73 : decode M_X3_readOut.2.1 73 = .ok (.goto 4, 3) := by decide +kernel
theorem dX3_readOut_76 : decode M_X3_readOut.2.1 76 = .ok (.iconst (-1), 1) := by decide +kernel
theorem dX3_readOut_77 : decode M_X3_readOut.2.1 77 = .ok (.putfield 41, 3) := by decide +kernel
theorem dX3_readOut_80 : decode M_X3_readOut.2.1 80 = .ok (.iload_n 3, 1) := by decide +kernel
theorem dX3_readOut_81 : decode M_X3_readOut.2.1 81 = .ok (.iconst 3, 1) := by decide +kernel
theorem dX3_readOut_82 : decode M_X3_readOut.2.1 82 = .ok (.if_icmp .ne 7, 3) := by decide +kernel
theorem dX3_readOut_85 : decode M_X3_readOut.2.1 85 = .ok (.iconst 2, 1) := by decide +kernel
theorem dX3_readOut_86 : decode M_X3_readOut.2.1 86 = .ok (.goto 4, 3) := by decide +kernel
theorem dX3_readOut_89 : decode M_X3_readOut.2.1 89 = .ok (.iload_n 3, 1) := by decide +kernel
theorem dX3_readOut_90 : decode M_X3_readOut.2.1 90 = .ok (.ireturn, 1) := by decide +kernel
def L_X3_readOut_37 (X : ZX) (d n : Nat) (P : Option Value → ZSto → Prop) (x3 : Int) (x4 : Int) (σ : ZSto) : Prop := R32 x3 → R32 x4 → ZOk n σ → Zn X M_X3_readOut d n P 37 [some (.ref (zB X + 61)), none, none, some (iV x3), some (iV x4)] [] σ
def L_X3_readOut_61 (X : ZX) (d n : Nat) (P : Option Value → ZSto → Prop) (x3 : Int) (σ : ZSto) : Prop := R32 x3 → ZOk n σ → Zn X M_X3_readOut d n P 61 [some (.ref (zB X + 61)), none, none, some (iV x3), none] [] σ
theorem w_X3_readOut {X : ZX} {d n : Nat} {P : Int → ZSto → Prop} {o1 : Nat} {x2 : Int} {σ : ZSto} (hn : 73 ≤ n) (hc1 : zIsB o1) (hx2 : R32 x2)
    (h : ZkV X M_X0_copyOf d n [.ref (zB X + 41), .ref (zB X + o1)] σ (fun σ2 => ZkI X M_X0_contentOf d n [.ref (zB X + o1), iV x2] (sI σ2 61 6 x2) (fun v7 σ8 => ZkV X M_X3_enterLevel d n [.ref (zB X + 61), iV 0] (sI (sI σ8 61 7 v7) 61 9 0) (fun σ15 => L_X3_readOut_37 X d n (zpI P) 3 0 σ15)))) :
    ZkI X M_X3_readOut (d + 1) n [.ref (zB X + 61), .ref (zB X + o1), iV x2] σ P := by
  refine zk_of (ls := [some (.ref (zB X + 61)), some (.ref (zB X + o1)), some (iV x2), none, none]) pl_RX3 (Nat.le_of_ble_eq_true rfl) rfl (fun k0 => ?_)
  unfold Zn
  refine r_aload_n dX3_readOut_0 rfl ?_
  refine r_getP (a := 41) dX3_readOut_1 kf_RX3_44 (zlt hn rfl) sh_61 rfl (k0.1 _ _ _ (zlt hn rfl) p_61_0) ?_
  refine r_aload_n dX3_readOut_4 rfl ?_
  refine n_callV (N := M_X0_copyOf) (As := [.ref (zB X + o1)]) (st := []) dX3_readOut_5 mk_X0_copyOf km_RX3_48 kd_X0_copyOf rfl (zlt hn rfl) sh_41 (q := (RX0, TX0, 13)) rfl rfl (zFits_rm d n n n (Nat.le_refl n)) (Nat.le_of_ble_eq_true rfl) rfl k0 h ?_
  rintro _ σ2 k3 ⟨rfl, h5⟩
  change Zm _ _ _ _ _ _ 8 _ [] _
  refine r_aload_n dX3_readOut_8 rfl ?_
  refine r_iload_n dX3_readOut_9 rfl ?_
  refine r_putI dX3_readOut_10 kf_RX3_28 (zlt hn rfl) sh_61 rfl (Or.inl rfl) ?_
  have k6 := zok_o (i := 6) (x := x2) k3 sh_61 hx2
  refine r_aload_n dX3_readOut_13 rfl ?_
  refine r_aload_n dX3_readOut_14 rfl ?_
  refine r_iload_n dX3_readOut_15 rfl ?_
  refine n_callV (N := M_X0_contentOf) (As := [iV x2]) (st := [.ref (zB X + 61)]) dX3_readOut_16 mk_X0_contentOf km_RX3_54 kd_X0_contentOf rfl (zB_lt hc1 hn) (zB_s hc1) (q := (RX0, TX0, 13)) rfl rfl (zFits_rm d n n n (Nat.le_refl n)) (Nat.le_of_ble_eq_true rfl) rfl k6 h5 ?_
  rintro _ σ8 k9 ⟨v7, rfl, h10, h11⟩
  change Zm _ _ _ _ _ _ 19 _ [iV v7, .ref (zB X + 61)] _
  refine r_putI dX3_readOut_19 kf_RX3_32 (zlt hn rfl) sh_61 rfl (Or.inl rfl) ?_
  have k12 := zok_o (i := 7) (x := v7) k9 sh_61 h10
  refine r_aload_n dX3_readOut_22 rfl ?_
  refine r_iconst dX3_readOut_23 ?_
  refine r_putI dX3_readOut_24 kf_RX3_38 (zlt hn rfl) sh_61 rfl (Or.inl rfl) ?_
  have k13 := zok_o (i := 9) (x := 0) k12 sh_61 (r32c rfl)
  refine r_aload_n dX3_readOut_27 rfl ?_
  refine r_iconst dX3_readOut_28 ?_
  refine n_callV (N := M_X3_enterLevel) (As := [iV 0]) (st := []) dX3_readOut_29 mk_X3_enterLevel km_RX3_58 kd_X3_enterLevel rfl (zlt hn rfl) sh_61 (q := (RX3, TX3, 11)) rfl rfl (zFits_rm d n n n (Nat.le_refl n)) (Nat.le_of_ble_eq_true rfl) rfl k13 h11 ?_
  rintro _ σ15 k16 ⟨rfl, h18⟩
  change Zm _ _ _ _ _ _ 32 _ [] _
  refine r_iconst dX3_readOut_32 ?_
  refine r_istore_n dX3_readOut_33 rfl rfl ?_
  refine r_iconst dX3_readOut_34 ?_
  refine r_istore dX3_readOut_35 rfl rfl ?_
  exact r_mask [true, false, false, true, true] rfl (h18 (r32c rfl) (r32c rfl) k16)
theorem b_X3_readOut_37 {X : ZX} {d n : Nat} {P : Int → ZSto → Prop} {x3 : Int} {x4 : Int} {σ : ZSto} (hn : 73 ≤ n) 
    (h : (2400 ≤ x4 → L_X3_readOut_61 X d n (zpI P) x3 σ) ∧ (¬ (2400 ≤ x4) → (¬ x3 = 3 → L_X3_readOut_61 X d n (zpI P) x3 σ) ∧ (x3 = 3 → ZkI X M_X3_goOn d n [.ref (zB X + 61)] σ (fun v9 σ10 => R32 (x4 + 1) ∧ L_X3_readOut_37 X d n (zpI P) v9 (x4 + 1) σ10)))) :
    L_X3_readOut_37 X d n (zpI P) x3 x4 σ := by
  intro hx3 hx4 k0
  unfold Zn
  refine r_iload dX3_readOut_37 rfl ?_
  refine r_sipush dX3_readOut_39 rfl ?_
  refine r_icmp_ge (t := 61) dX3_readOut_42 rfl hx4 (r32c rfl) (fun c1 => ?_) (fun c2 => ?_)
  · have h3 := h.1 c1
    exact r_mask [true, false, false, true, false] rfl (h3 hx3 k0)
  · have h4 := h.2 c2
    refine r_iload_n dX3_readOut_45 rfl ?_
    refine r_iconst dX3_readOut_46 ?_
    refine r_icmp_ne (t := 61) dX3_readOut_47 rfl hx3 (r32c rfl) (fun c5 => ?_) (fun c6 => ?_)
    · have h7 := h4.1 c5
      exact r_mask [true, false, false, true, false] rfl (h7 hx3 k0)
    · have h8 := h4.2 c6
      refine r_aload_n dX3_readOut_50 rfl ?_
      refine n_callV (N := M_X3_goOn) (As := []) (st := []) dX3_readOut_51 mk_X3_goOn km_RX3_62 kd_X3_goOn rfl (zlt hn rfl) sh_61 (q := (RX3, TX3, 11)) rfl rfl (zFits_rm d n n n (Nat.le_refl n)) (Nat.le_of_ble_eq_true rfl) rfl k0 h8 ?_
      rintro _ σ10 k11 ⟨v9, rfl, h12, h13⟩
      change Zm _ _ _ _ _ _ 54 _ [iV v9] _
      refine r_istore_n dX3_readOut_54 rfl rfl ?_
      refine r_iinc dX3_readOut_55 rfl rfl rfl ?_
      refine r_goto (t := 37) dX3_readOut_58 rfl ?_
      obtain ⟨h14, h15⟩ := h13
      exact r_mask [true, false, false, true, true] rfl (h15 h12 h14 k11)
theorem b_X3_readOut_61 {X : ZX} {d n : Nat} {P : Int → ZSto → Prop} {x3 : Int} {σ : ZSto} (hn : 73 ≤ n) 
    (h : (¬ x3 = 1 → (¬ x3 = 3 → P x3 (sI σ 61 10 ((-1)))) ∧ (x3 = 3 → P 2 (sI σ 61 10 ((-1))))) ∧ (x3 = 1 → (¬ x3 = 3 → P x3 (sI σ 61 10 (gI σ 66 0))) ∧ (x3 = 3 → P 2 (sI σ 61 10 (gI σ 66 0))))) :
    L_X3_readOut_61 X d n (zpI P) x3 σ := by
  intro hx3 k0
  unfold Zn
  refine r_aload_n dX3_readOut_61 rfl ?_
  refine r_iload_n dX3_readOut_62 rfl ?_
  refine r_iconst dX3_readOut_63 ?_
  refine r_icmp_ne (t := 76) dX3_readOut_64 rfl hx3 (r32c rfl) (fun c1 => ?_) (fun c2 => ?_)
  · have h3 := h.1 c1
    refine r_iconst dX3_readOut_76 ?_
    refine r_putI dX3_readOut_77 kf_RX3_41 (zlt hn rfl) sh_61 rfl (Or.inl rfl) ?_
    have k4 := zok_o (i := 10) (x := (-1)) k0 sh_61 (r32c rfl)
    refine r_iload_n dX3_readOut_80 rfl ?_
    refine r_iconst dX3_readOut_81 ?_
    refine r_icmp_ne (t := 89) dX3_readOut_82 rfl hx3 (r32c rfl) (fun c5 => ?_) (fun c6 => ?_)
    · have h7 := h3.1 c5
      refine r_iload_n dX3_readOut_89 rfl ?_
      exact r_ireturn dX3_readOut_90 rfl ⟨k4, _, rfl, hx3, h7⟩
    · have h8 := h3.2 c6
      refine r_iconst dX3_readOut_85 ?_
      refine r_goto (t := 90) dX3_readOut_86 rfl ?_
      exact r_ireturn dX3_readOut_90 rfl ⟨k4, _, rfl, (r32c rfl), h8⟩
  · have h9 := h.2 c2
    refine r_aload_n dX3_readOut_67 rfl ?_
    refine r_getP (a := 66) dX3_readOut_68 kf_RX3_25 (zlt hn rfl) sh_61 rfl (k0.1 _ _ _ (zlt hn rfl) p_61_5) ?_
    refine r_iconst dX3_readOut_71 ?_
    refine r_ialoadE dX3_readOut_72 (zlt hn rfl) sh_66 (by decide) (by decide) rfl ?_
    refine r_goto (t := 77) dX3_readOut_73 rfl ?_
    refine r_putI dX3_readOut_77 kf_RX3_41 (zlt hn rfl) sh_61 rfl (Or.inl rfl) ?_
    have k10 := zok_o (i := 10) (x := gI σ 66 0) k0 sh_61 (k0.2.1 _ _)
    refine r_iload_n dX3_readOut_80 rfl ?_
    refine r_iconst dX3_readOut_81 ?_
    refine r_icmp_ne (t := 89) dX3_readOut_82 rfl hx3 (r32c rfl) (fun c11 => ?_) (fun c12 => ?_)
    · have h13 := h9.1 c11
      refine r_iload_n dX3_readOut_89 rfl ?_
      exact r_ireturn dX3_readOut_90 rfl ⟨k10, _, rfl, hx3, h13⟩
    · have h14 := h9.2 c12
      refine r_iconst dX3_readOut_85 ?_
      refine r_goto (t := 90) dX3_readOut_86 rfl ?_
      exact r_ireturn dX3_readOut_90 rfl ⟨k10, _, rfl, (r32c rfl), h14⟩
/-! StoneRoom$Ladder.goOn -/
theorem dX3_goOn_0 : decode M_X3_goOn.2.1 0 = .ok (.aload_n 0, 1) := by decide +kernel
theorem dX3_goOn_1 : decode M_X3_goOn.2.1 1 = .ok (.invokevirtual 66, 3) := by decide +kernel
theorem dX3_goOn_4 : decode M_X3_goOn.2.1 4 = .ok (.istore_n 1, 1) := by decide +kernel
theorem dX3_goOn_5 : decode M_X3_goOn.2.1 5 = .ok (.iload_n 1, 1) := by decide +kernel
theorem dX3_goOn_6 : decode M_X3_goOn.2.1 6 = .ok (.iconst (-1), 1) := by decide +kernel
theorem dX3_goOn_7 : decode M_X3_goOn.2.1 7 = .ok (.if_icmp .ne 8, 3) := by decide +kernel
theorem dX3_goOn_10 : decode M_X3_goOn.2.1 10 = .ok (.aload_n 0, 1) := by decide +kernel
theorem dX3_goOn_11 : decode M_X3_goOn.2.1 11 = .ok (.invokevirtual 69, 3) := by decide +kernel
theorem dX3_goOn_14 : decode M_X3_goOn.2.1 14 = .ok (.ireturn, 1) := by decide +kernel
theorem dX3_goOn_15 : decode M_X3_goOn.2.1 15 = .ok (.aload_n 0, 1) := by decide +kernel
theorem dX3_goOn_16 : decode M_X3_goOn.2.1 16 = .ok (.getfield 38, 3) := by decide +kernel
theorem dX3_goOn_19 : decode M_X3_goOn.2.1 19 = .ok (.sipush 600, 3) := by decide +kernel
theorem dX3_goOn_22 : decode M_X3_goOn.2.1 22 = .ok (.if_icmp .lt 5, 3) := by decide +kernel
theorem dX3_goOn_25 : decode M_X3_goOn.2.1 25 = .ok (.iconst 2, 1) := by decide +kernel
theorem dX3_goOn_26 : decode M_X3_goOn.2.1 26 = .ok (.ireturn, 1) := by decide +kernel
theorem dX3_goOn_27 : decode M_X3_goOn.2.1 27 = .ok (.aload_n 0, 1) := by decide +kernel
theorem dX3_goOn_28 : decode M_X3_goOn.2.1 28 = .ok (.dup, 1) := by decide +kernel
theorem dX3_goOn_29 : decode M_X3_goOn.2.1 29 = .ok (.getfield 38, 3) := by decide +kernel
theorem dX3_goOn_32 : decode M_X3_goOn.2.1 32 = .ok (.iconst 1, 1) := by decide +kernel
theorem dX3_goOn_33 : decode M_X3_goOn.2.1 33 = .ok (.iadd, 1) := by decide +kernel
theorem dX3_goOn_34 : decode M_X3_goOn.2.1 34 = .ok (.putfield 38, 3) := by decide +kernel
theorem dX3_goOn_37 : decode M_X3_goOn.2.1 37 = .ok (.aload_n 0, 1) := by decide +kernel
theorem dX3_goOn_38 : decode M_X3_goOn.2.1 38 = .ok (.iload_n 1, 1) := by decide +kernel
theorem dX3_goOn_39 : decode M_X3_goOn.2.1 39 = .ok (.invokevirtual 72, 3) := by decide +kernel
theorem dX3_goOn_42 : decode M_X3_goOn.2.1 42 = .ok (.istore_n 2, 1) := by decide +kernel
theorem dX3_goOn_43 : decode M_X3_goOn.2.1 43 = .ok (.iload_n 2, 1) := by decide +kernel
theorem dX3_goOn_44 : decode M_X3_goOn.2.1 44 = .ok (.iconst 2, 1) := by decide +kernel
theorem dX3_goOn_45 : decode M_X3_goOn.2.1 45 = .ok (.if_icmp .ne 16, 3) := by decide +kernel
theorem dX3_goOn_48 : decode M_X3_goOn.2.1 48 = .ok (.aload_n 0, 1) := by decide +kernel
theorem dX3_goOn_49 : decode M_X3_goOn.2.1 49 = .ok (.aload_n 0, 1) := by decide +kernel
theorem dX3_goOn_50 : decode M_X3_goOn.2.1 50 = .ok (.getfield 35, 3) := by decide +kernel
theorem dX3_goOn_53 : decode M_X3_goOn.2.1 53 = .ok (.iconst 1, 1) := by decide +kernel
theorem dX3_goOn_54 : decode M_X3_goOn.2.1 54 = .ok (.iadd, 1) := by decide +kernel
theorem dX3_goOn_55 : decode M_X3_goOn.2.1 55 = .ok (.invokevirtual 58, 3) := by decide +kernel
theorem dX3_goOn_58 : decode M_X3_goOn.2.1 58 = .ok (.goto 13, 3) := by decide +kernel
theorem dX3_goOn_61 : decode M_X3_goOn.2.1 61 = .ok (.iload_n 2, 1) := by decide +kernel
theorem dX3_goOn_62 : decode M_X3_goOn.2.1 62 = .ok (.iconst 1, 1) := by decide +kernel
theorem dX3_goOn_63 : decode M_X3_goOn.2.1 63 = .ok (.if_icmp .ne 8, 3) := by decide +kernel
theorem dX3_goOn_66 : decode M_X3_goOn.2.1 66 = .ok (.aload_n 0, 1) := by decide +kernel
theorem dX3_goOn_67 : decode M_X3_goOn.2.1 67 = .ok (.invokevirtual 75, 3) := by decide +kernel
theorem dX3_goOn_70 : decode M_X3_goOn.2.1 70 = .ok (.ireturn, 1) := by decide +kernel
theorem dX3_goOn_71 : decode M_X3_goOn.2.1 71 = .ok (.iconst 3, 1) := by decide +kernel
theorem dX3_goOn_72 : decode M_X3_goOn.2.1 72 = .ok (.ireturn, 1) := by decide +kernel
theorem w_X3_goOn {X : ZX} {d n : Nat} {P : Int → ZSto → Prop}  {σ : ZSto} (hn : 73 ≤ n)  
    (h : ZkI X M_X3_nextMove d n [.ref (zB X + 61)] σ (fun v1 σ2 => (¬ v1 = (-1) → (gI σ2 61 9 < 600 → R32 ((gI σ2 61 9) + 1) ∧ ZkI X M_X3_attempt d n [.ref (zB X + 61), iV v1] (sI σ2 61 9 ((gI σ2 61 9) + 1)) (fun v15 σ16 => (¬ v15 = 2 → (¬ v15 = 1 → P 3 σ16) ∧ (v15 = 1 → ZkI X M_X3_leaveWinning d n [.ref (zB X + 61)] σ16 (fun v27 σ28 => P v27 σ28))) ∧ (v15 = 2 → ZkV X M_X3_enterLevel d n [.ref (zB X + 61), iV ((gI σ16 61 8) + 1)] σ16 (fun σ34 => P 3 σ34)))) ∧ (¬ (gI σ2 61 9 < 600) → P 2 σ2)) ∧ (v1 = (-1) → ZkI X M_X3_leaveBeaten d n [.ref (zB X + 61)] σ2 (fun v40 σ41 => P v40 σ41)))) :
    ZkI X M_X3_goOn (d + 1) n [.ref (zB X + 61)] σ P := by
  refine zk_of (ls := [some (.ref (zB X + 61)), none, none]) pl_RX3 (Nat.le_of_ble_eq_true rfl) rfl (fun k0 => ?_)
  unfold Zn
  refine r_aload_n dX3_goOn_0 rfl ?_
  refine n_callV (N := M_X3_nextMove) (As := []) (st := []) dX3_goOn_1 mk_X3_nextMove km_RX3_66 kd_X3_nextMove rfl (zlt hn rfl) sh_61 (q := (RX3, TX3, 11)) rfl rfl (zFits_rm d n n n (Nat.le_refl n)) (Nat.le_of_ble_eq_true rfl) rfl k0 h ?_
  rintro _ σ2 k3 ⟨v1, rfl, h4, h5⟩
  change Zm _ _ _ _ _ _ 4 _ [iV v1] _
  refine r_istore_n dX3_goOn_4 rfl rfl ?_
  refine r_iload_n dX3_goOn_5 rfl ?_
  refine r_iconst dX3_goOn_6 ?_
  refine r_icmp_ne (t := 15) dX3_goOn_7 rfl h4 (r32c rfl) (fun c6 => ?_) (fun c7 => ?_)
  · have h8 := h5.1 c6
    refine r_aload_n dX3_goOn_15 rfl ?_
    refine r_getI dX3_goOn_16 kf_RX3_38 (zlt hn rfl) sh_61 (Or.inl rfl) rfl ?_
    refine r_sipush dX3_goOn_19 rfl ?_
    refine r_icmp_lt (t := 27) dX3_goOn_22 rfl (k3.2.1 _ _) (r32c rfl) (fun c9 => ?_) (fun c10 => ?_)
    · have h11 := h8.1 c9
      refine r_aload_n dX3_goOn_27 rfl ?_
      refine r_dup dX3_goOn_28 rfl ?_
      refine r_getI dX3_goOn_29 kf_RX3_38 (zlt hn rfl) sh_61 (Or.inl rfl) rfl ?_
      refine r_iconst dX3_goOn_32 ?_
      refine r_iadd dX3_goOn_33 ?_
      obtain ⟨h12, h13⟩ := h11
      refine r_putI dX3_goOn_34 kf_RX3_38 (zlt hn rfl) sh_61 rfl (Or.inl rfl) ?_
      have k14 := zok_o (i := 9) (x := (gI σ2 61 9) + 1) k3 sh_61 h12
      refine r_aload_n dX3_goOn_37 rfl ?_
      refine r_iload_n dX3_goOn_38 rfl ?_
      refine n_callV (N := M_X3_attempt) (As := [iV v1]) (st := []) dX3_goOn_39 mk_X3_attempt km_RX3_72 kd_X3_attempt rfl (zlt hn rfl) sh_61 (q := (RX3, TX3, 11)) rfl rfl (zFits_rm d n n n (Nat.le_refl n)) (Nat.le_of_ble_eq_true rfl) rfl k14 h13 ?_
      rintro _ σ16 k17 ⟨v15, rfl, h18, h19⟩
      change Zm _ _ _ _ _ _ 42 _ [iV v15] _
      refine r_istore_n dX3_goOn_42 rfl rfl ?_
      refine r_iload_n dX3_goOn_43 rfl ?_
      refine r_iconst dX3_goOn_44 ?_
      refine r_icmp_ne (t := 61) dX3_goOn_45 rfl h18 (r32c rfl) (fun c20 => ?_) (fun c21 => ?_)
      · have h22 := h19.1 c20
        refine r_iload_n dX3_goOn_61 rfl ?_
        refine r_iconst dX3_goOn_62 ?_
        refine r_icmp_ne (t := 71) dX3_goOn_63 rfl h18 (r32c rfl) (fun c23 => ?_) (fun c24 => ?_)
        · have h25 := h22.1 c23
          refine r_iconst dX3_goOn_71 ?_
          exact r_ireturn dX3_goOn_72 rfl ⟨k17, _, rfl, (r32c rfl), h25⟩
        · have h26 := h22.2 c24
          refine r_aload_n dX3_goOn_66 rfl ?_
          refine n_callV (N := M_X3_leaveWinning) (As := []) (st := []) dX3_goOn_67 mk_X3_leaveWinning km_RX3_75 kd_X3_leaveWinning rfl (zlt hn rfl) sh_61 (q := (RX3, TX3, 11)) rfl rfl (zFits_rm d n n n (Nat.le_refl n)) (Nat.le_of_ble_eq_true rfl) rfl k17 h26 ?_
          rintro _ σ28 k29 ⟨v27, rfl, h30, h31⟩
          change Zm _ _ _ _ _ _ 70 _ [iV v27] _
          exact r_ireturn dX3_goOn_70 rfl ⟨k29, _, rfl, h30, h31⟩
      · have h32 := h19.2 c21
        refine r_aload_n dX3_goOn_48 rfl ?_
        refine r_aload_n dX3_goOn_49 rfl ?_
        refine r_getI dX3_goOn_50 kf_RX3_35 (zlt hn rfl) sh_61 (Or.inl rfl) rfl ?_
        refine r_iconst dX3_goOn_53 ?_
        refine r_iadd dX3_goOn_54 ?_
        refine n_callV (N := M_X3_enterLevel) (As := [iV ((gI σ16 61 8) + 1)]) (st := []) dX3_goOn_55 mk_X3_enterLevel km_RX3_58 kd_X3_enterLevel rfl (zlt hn rfl) sh_61 (q := (RX3, TX3, 11)) rfl rfl (zFits_rm d n n n (Nat.le_refl n)) (Nat.le_of_ble_eq_true rfl) rfl k17 h32 ?_
        rintro _ σ34 k35 ⟨rfl, h37⟩
        change Zm _ _ _ _ _ _ 58 _ [] _
        refine r_goto (t := 71) dX3_goOn_58 rfl ?_
        refine r_iconst dX3_goOn_71 ?_
        exact r_ireturn dX3_goOn_72 rfl ⟨k35, _, rfl, (r32c rfl), h37⟩
    · have h38 := h8.2 c10
      refine r_iconst dX3_goOn_25 ?_
      exact r_ireturn dX3_goOn_26 rfl ⟨k3, _, rfl, (r32c rfl), h38⟩
  · have h39 := h5.2 c7
    refine r_aload_n dX3_goOn_10 rfl ?_
    refine n_callV (N := M_X3_leaveBeaten) (As := []) (st := []) dX3_goOn_11 mk_X3_leaveBeaten km_RX3_69 kd_X3_leaveBeaten rfl (zlt hn rfl) sh_61 (q := (RX3, TX3, 11)) rfl rfl (zFits_rm d n n n (Nat.le_refl n)) (Nat.le_of_ble_eq_true rfl) rfl k3 h39 ?_
    rintro _ σ41 k42 ⟨v40, rfl, h43, h44⟩
    change Zm _ _ _ _ _ _ 14 _ [iV v40] _
    exact r_ireturn dX3_goOn_14 rfl ⟨k42, _, rfl, h43, h44⟩
/-! StoneRoom$Ladder.leaveBeaten -/
theorem dX3_leaveBeaten_0 : decode M_X3_leaveBeaten.2.1 0 = .ok (.aload_n 0, 1) := by decide +kernel
theorem dX3_leaveBeaten_1 : decode M_X3_leaveBeaten.2.1 1 = .ok (.getfield 35, 3) := by decide +kernel
theorem dX3_leaveBeaten_4 : decode M_X3_leaveBeaten.2.1 4 = .ok (.ifCond .ne 5, 3) := by decide +kernel
theorem dX3_leaveBeaten_7 : decode M_X3_leaveBeaten.2.1 7 = .ok (.iconst 0, 1) := by decide +kernel
theorem dX3_leaveBeaten_8 : decode M_X3_leaveBeaten.2.1 8 = .ok (.ireturn, 1) := by decide +kernel
theorem dX3_leaveBeaten_9 : decode M_X3_leaveBeaten.2.1 9 = .ok (.aload_n 0, 1) := by decide +kernel
theorem dX3_leaveBeaten_10 : decode M_X3_leaveBeaten.2.1 10 = .ok (.dup, 1) := by decide +kernel
theorem dX3_leaveBeaten_11 : decode M_X3_leaveBeaten.2.1 11 = .ok (.getfield 35, 3) := by decide +kernel
theorem dX3_leaveBeaten_14 : decode M_X3_leaveBeaten.2.1 14 = .ok (.iconst 1, 1) := by decide +kernel
theorem dX3_leaveBeaten_15 : decode M_X3_leaveBeaten.2.1 15 = .ok (.isub, 1) := by decide +kernel
theorem dX3_leaveBeaten_16 : decode M_X3_leaveBeaten.2.1 16 = .ok (.putfield 35, 3) := by decide +kernel
theorem dX3_leaveBeaten_19 : decode M_X3_leaveBeaten.2.1 19 = .ok (.aload_n 0, 1) := by decide +kernel
theorem dX3_leaveBeaten_20 : decode M_X3_leaveBeaten.2.1 20 = .ok (.invokevirtual 75, 3) := by decide +kernel
theorem dX3_leaveBeaten_23 : decode M_X3_leaveBeaten.2.1 23 = .ok (.ireturn, 1) := by decide +kernel
theorem w_X3_leaveBeaten {X : ZX} {d n : Nat} {P : Int → ZSto → Prop}  {σ : ZSto} (hn : 73 ≤ n)  
    (h : (¬ gI σ 61 8 = 0 → R32 ((gI σ 61 8) - 1) ∧ ZkI X M_X3_leaveWinning d n [.ref (zB X + 61)] (sI σ 61 8 ((gI σ 61 8) - 1)) (fun v7 σ8 => P v7 σ8)) ∧ (gI σ 61 8 = 0 → P 0 σ)) :
    ZkI X M_X3_leaveBeaten (d + 1) n [.ref (zB X + 61)] σ P := by
  refine zk_of (ls := [some (.ref (zB X + 61))]) pl_RX3 (Nat.le_of_ble_eq_true rfl) rfl (fun k0 => ?_)
  unfold Zn
  refine r_aload_n dX3_leaveBeaten_0 rfl ?_
  refine r_getI dX3_leaveBeaten_1 kf_RX3_35 (zlt hn rfl) sh_61 (Or.inl rfl) rfl ?_
  refine r_if_ne (t := 9) dX3_leaveBeaten_4 rfl (k0.2.1 _ _)  (fun c1 => ?_) (fun c2 => ?_)
  · have h3 := h.1 c1
    refine r_aload_n dX3_leaveBeaten_9 rfl ?_
    refine r_dup dX3_leaveBeaten_10 rfl ?_
    refine r_getI dX3_leaveBeaten_11 kf_RX3_35 (zlt hn rfl) sh_61 (Or.inl rfl) rfl ?_
    refine r_iconst dX3_leaveBeaten_14 ?_
    refine r_isub dX3_leaveBeaten_15 ?_
    obtain ⟨h4, h5⟩ := h3
    refine r_putI dX3_leaveBeaten_16 kf_RX3_35 (zlt hn rfl) sh_61 rfl (Or.inl rfl) ?_
    have k6 := zok_o (i := 8) (x := (gI σ 61 8) - 1) k0 sh_61 h4
    refine r_aload_n dX3_leaveBeaten_19 rfl ?_
    refine n_callV (N := M_X3_leaveWinning) (As := []) (st := []) dX3_leaveBeaten_20 mk_X3_leaveWinning km_RX3_75 kd_X3_leaveWinning rfl (zlt hn rfl) sh_61 (q := (RX3, TX3, 11)) rfl rfl (zFits_rm d n n n (Nat.le_refl n)) (Nat.le_of_ble_eq_true rfl) rfl k6 h5 ?_
    rintro _ σ8 k9 ⟨v7, rfl, h10, h11⟩
    change Zm _ _ _ _ _ _ 23 _ [iV v7] _
    exact r_ireturn dX3_leaveBeaten_23 rfl ⟨k9, _, rfl, h10, h11⟩
  · have h12 := h.2 c2
    refine r_iconst dX3_leaveBeaten_7 ?_
    exact r_ireturn dX3_leaveBeaten_8 rfl ⟨k0, _, rfl, (r32c rfl), h12⟩
/-! StoneRoom$Ladder.leaveWinning -/
theorem dX3_leaveWinning_0 : decode M_X3_leaveWinning.2.1 0 = .ok (.aload_n 0, 1) := by decide +kernel
theorem dX3_leaveWinning_1 : decode M_X3_leaveWinning.2.1 1 = .ok (.getfield 35, 3) := by decide +kernel
theorem dX3_leaveWinning_4 : decode M_X3_leaveWinning.2.1 4 = .ok (.ifCond .ne 5, 3) := by decide +kernel
theorem dX3_leaveWinning_7 : decode M_X3_leaveWinning.2.1 7 = .ok (.iconst 1, 1) := by decide +kernel
theorem dX3_leaveWinning_8 : decode M_X3_leaveWinning.2.1 8 = .ok (.ireturn, 1) := by decide +kernel
theorem dX3_leaveWinning_9 : decode M_X3_leaveWinning.2.1 9 = .ok (.aload_n 0, 1) := by decide +kernel
theorem dX3_leaveWinning_10 : decode M_X3_leaveWinning.2.1 10 = .ok (.dup, 1) := by decide +kernel
theorem dX3_leaveWinning_11 : decode M_X3_leaveWinning.2.1 11 = .ok (.getfield 35, 3) := by decide +kernel
theorem dX3_leaveWinning_14 : decode M_X3_leaveWinning.2.1 14 = .ok (.iconst 1, 1) := by decide +kernel
theorem dX3_leaveWinning_15 : decode M_X3_leaveWinning.2.1 15 = .ok (.isub, 1) := by decide +kernel
theorem dX3_leaveWinning_16 : decode M_X3_leaveWinning.2.1 16 = .ok (.putfield 35, 3) := by decide +kernel
theorem dX3_leaveWinning_19 : decode M_X3_leaveWinning.2.1 19 = .ok (.iconst 3, 1) := by decide +kernel
theorem dX3_leaveWinning_20 : decode M_X3_leaveWinning.2.1 20 = .ok (.ireturn, 1) := by decide +kernel
theorem w_X3_leaveWinning {X : ZX} {d n : Nat} {P : Int → ZSto → Prop}  {σ : ZSto} (hn : 73 ≤ n)  
    (h : (¬ gI σ 61 8 = 0 → R32 ((gI σ 61 8) - 1) ∧ P 3 (sI σ 61 8 ((gI σ 61 8) - 1))) ∧ (gI σ 61 8 = 0 → P 1 σ)) :
    ZkI X M_X3_leaveWinning (d + 1) n [.ref (zB X + 61)] σ P := by
  refine zk_of (ls := [some (.ref (zB X + 61))]) pl_RX3 (Nat.le_of_ble_eq_true rfl) rfl (fun k0 => ?_)
  unfold Zn
  refine r_aload_n dX3_leaveWinning_0 rfl ?_
  refine r_getI dX3_leaveWinning_1 kf_RX3_35 (zlt hn rfl) sh_61 (Or.inl rfl) rfl ?_
  refine r_if_ne (t := 9) dX3_leaveWinning_4 rfl (k0.2.1 _ _)  (fun c1 => ?_) (fun c2 => ?_)
  · have h3 := h.1 c1
    refine r_aload_n dX3_leaveWinning_9 rfl ?_
    refine r_dup dX3_leaveWinning_10 rfl ?_
    refine r_getI dX3_leaveWinning_11 kf_RX3_35 (zlt hn rfl) sh_61 (Or.inl rfl) rfl ?_
    refine r_iconst dX3_leaveWinning_14 ?_
    refine r_isub dX3_leaveWinning_15 ?_
    obtain ⟨h4, h5⟩ := h3
    refine r_putI dX3_leaveWinning_16 kf_RX3_35 (zlt hn rfl) sh_61 rfl (Or.inl rfl) ?_
    have k6 := zok_o (i := 8) (x := (gI σ 61 8) - 1) k0 sh_61 h4
    refine r_iconst dX3_leaveWinning_19 ?_
    exact r_ireturn dX3_leaveWinning_20 rfl ⟨k6, _, rfl, (r32c rfl), h5⟩
  · have h7 := h.2 c2
    refine r_iconst dX3_leaveWinning_7 ?_
    exact r_ireturn dX3_leaveWinning_8 rfl ⟨k0, _, rfl, (r32c rfl), h7⟩
/-! StoneRoom$Ladder.isHunterLevel -/
theorem dX3_isHunterLevel_0 : decode M_X3_isHunterLevel.2.1 0 = .ok (.aload_n 0, 1) := by decide +kernel
theorem dX3_isHunterLevel_1 : decode M_X3_isHunterLevel.2.1 1 = .ok (.getfield 35, 3) := by decide +kernel
theorem dX3_isHunterLevel_4 : decode M_X3_isHunterLevel.2.1 4 = .ok (.iconst 2, 1) := by decide +kernel
theorem dX3_isHunterLevel_5 : decode M_X3_isHunterLevel.2.1 5 = .ok (.irem, 1) := by decide +kernel
theorem dX3_isHunterLevel_6 : decode M_X3_isHunterLevel.2.1 6 = .ok (.ifCond .ne 7, 3) := by decide +kernel
theorem dX3_isHunterLevel_9 : decode M_X3_isHunterLevel.2.1 9 = .ok (.iconst 1, 1) := by decide +kernel
theorem dX3_isHunterLevel_10 : decode M_X3_isHunterLevel.2.1 10 = .ok (.goto 4, 3) := by decide +kernel
theorem dX3_isHunterLevel_13 : decode M_X3_isHunterLevel.2.1 13 = .ok (.iconst 0, 1) := by decide +kernel
theorem dX3_isHunterLevel_14 : decode M_X3_isHunterLevel.2.1 14 = .ok (.ireturn, 1) := by decide +kernel
theorem w_X3_isHunterLevel {X : ZX} {d n : Nat} {P : Int → ZSto → Prop}  {σ : ZSto} (hn : 73 ≤ n)  
    (h : (0 ≤ gI σ 61 8 ∧ gI σ 61 8 < 2147483648) ∧ R32 ((gI σ 61 8) % 2) ∧ (¬ (gI σ 61 8) % 2 = 0 → P 0 σ) ∧ ((gI σ 61 8) % 2 = 0 → P 1 σ)) :
    ZkZ X M_X3_isHunterLevel (d + 1) n [.ref (zB X + 61)] σ P := by
  refine zk_of (ls := [some (.ref (zB X + 61))]) pl_RX3 (Nat.le_of_ble_eq_true rfl) rfl (fun k0 => ?_)
  unfold Zn
  refine r_aload_n dX3_isHunterLevel_0 rfl ?_
  refine r_getI dX3_isHunterLevel_1 kf_RX3_35 (zlt hn rfl) sh_61 (Or.inl rfl) rfl ?_
  refine r_iconst dX3_isHunterLevel_4 ?_
  obtain ⟨h1, h2⟩ := h
  refine r_irem dX3_isHunterLevel_5 h1.1 h1.2 (by decide) (by decide) ?_
  obtain ⟨h3, h4⟩ := h2
  refine r_if_ne (t := 13) dX3_isHunterLevel_6 rfl h3  (fun c5 => ?_) (fun c6 => ?_)
  · have h7 := h4.1 c5
    refine r_iconst dX3_isHunterLevel_13 ?_
    exact r_zreturn dX3_isHunterLevel_14 rfl (Or.inl rfl) ⟨k0, _, rfl, (Or.inl rfl), h7⟩
  · have h8 := h4.2 c6
    refine r_iconst dX3_isHunterLevel_9 ?_
    refine r_goto (t := 14) dX3_isHunterLevel_10 rfl ?_
    exact r_zreturn dX3_isHunterLevel_14 rfl (Or.inr rfl) ⟨k0, _, rfl, (Or.inr rfl), h8⟩
/-! StoneRoom$Ladder.attempt -/
theorem dX3_attempt_0 : decode M_X3_attempt.2.1 0 = .ok (.aload_n 0, 1) := by decide +kernel
theorem dX3_attempt_1 : decode M_X3_attempt.2.1 1 = .ok (.getfield 44, 3) := by decide +kernel
theorem dX3_attempt_4 : decode M_X3_attempt.2.1 4 = .ok (.aload_n 0, 1) := by decide +kernel
theorem dX3_attempt_5 : decode M_X3_attempt.2.1 5 = .ok (.getfield 11, 3) := by decide +kernel
theorem dX3_attempt_8 : decode M_X3_attempt.2.1 8 = .ok (.aload_n 0, 1) := by decide +kernel
theorem dX3_attempt_9 : decode M_X3_attempt.2.1 9 = .ok (.getfield 35, 3) := by decide +kernel
theorem dX3_attempt_12 : decode M_X3_attempt.2.1 12 = .ok (.iconst 3, 1) := by decide +kernel
theorem dX3_attempt_13 : decode M_X3_attempt.2.1 13 = .ok (.imul, 1) := by decide +kernel
theorem dX3_attempt_14 : decode M_X3_attempt.2.1 14 = .ok (.invokevirtual 78, 3) := by decide +kernel
theorem dX3_attempt_17 : decode M_X3_attempt.2.1 17 = .ok (.aload_n 0, 1) := by decide +kernel
theorem dX3_attempt_18 : decode M_X3_attempt.2.1 18 = .ok (.getfield 44, 3) := by decide +kernel
theorem dX3_attempt_21 : decode M_X3_attempt.2.1 21 = .ok (.iload_n 1, 1) := by decide +kernel
theorem dX3_attempt_22 : decode M_X3_attempt.2.1 22 = .ok (.aload_n 0, 1) := by decide +kernel
theorem dX3_attempt_23 : decode M_X3_attempt.2.1 23 = .ok (.invokevirtual 82, 3) := by decide +kernel
theorem dX3_attempt_26 : decode M_X3_attempt.2.1 26 = .ok (.ifCond .eq 13, 3) := by decide +kernel
theorem dX3_attempt_29 : decode M_X3_attempt.2.1 29 = .ok (.aload_n 0, 1) := by decide +kernel
theorem dX3_attempt_30 : decode M_X3_attempt.2.1 30 = .ok (.getfield 32, 3) := by decide +kernel
theorem dX3_attempt_33 : decode M_X3_attempt.2.1 33 = .ok (.invokestatic 86, 3) := by decide +kernel
theorem dX3_attempt_36 : decode M_X3_attempt.2.1 36 = .ok (.goto 7, 3) := by decide +kernel
theorem dX3_attempt_39 : decode M_X3_attempt.2.1 39 = .ok (.aload_n 0, 1) := by decide +kernel
theorem dX3_attempt_40 : decode M_X3_attempt.2.1 40 = .ok (.getfield 32, 3) := by decide +kernel
theorem dX3_attempt_43 : decode M_X3_attempt.2.1 43 = .ok (.invokevirtual 89, 3) := by decide +kernel
theorem dX3_attempt_46 : decode M_X3_attempt.2.1 46 = .ok (.ifCond .ne 5, 3) := by decide +kernel
theorem dX3_attempt_49 : decode M_X3_attempt.2.1 49 = .ok (.iconst 0, 1) := by decide +kernel
theorem dX3_attempt_50 : decode M_X3_attempt.2.1 50 = .ok (.ireturn, 1) := by decide +kernel
theorem dX3_attempt_51 : decode M_X3_attempt.2.1 51 = .ok (.aload_n 0, 1) := by decide +kernel
theorem dX3_attempt_52 : decode M_X3_attempt.2.1 52 = .ok (.getfield 44, 3) := by decide +kernel
theorem dX3_attempt_55 : decode M_X3_attempt.2.1 55 = .ok (.invokevirtual 93, 3) := by decide +kernel
theorem dX3_attempt_58 : decode M_X3_attempt.2.1 58 = .ok (.aload_n 0, 1) := by decide +kernel
theorem dX3_attempt_59 : decode M_X3_attempt.2.1 59 = .ok (.getfield 35, 3) := by decide +kernel
theorem dX3_attempt_62 : decode M_X3_attempt.2.1 62 = .ok (.ifCond .le 27, 3) := by decide +kernel
theorem dX3_attempt_65 : decode M_X3_attempt.2.1 65 = .ok (.aload_n 0, 1) := by decide +kernel
theorem dX3_attempt_66 : decode M_X3_attempt.2.1 66 = .ok (.getfield 44, 3) := by decide +kernel
theorem dX3_attempt_69 : decode M_X3_attempt.2.1 69 = .ok (.aload_n 0, 1) := by decide +kernel
theorem dX3_attempt_70 : decode M_X3_attempt.2.1 70 = .ok (.getfield 11, 3) := by decide +kernel
theorem dX3_attempt_73 : decode M_X3_attempt.2.1 73 = .ok (.aload_n 0, 1) := by decide +kernel
theorem dX3_attempt_74 : decode M_X3_attempt.2.1 74 = .ok (.getfield 35, 3) := by decide +kernel
theorem dX3_attempt_77 : decode M_X3_attempt.2.1 77 = .ok (.iconst 1, 1) := by decide +kernel
theorem dX3_attempt_78 : decode M_X3_attempt.2.1 78 = .ok (.isub, 1) := by decide +kernel
theorem dX3_attempt_79 : decode M_X3_attempt.2.1 79 = .ok (.iconst 3, 1) := by decide +kernel
theorem dX3_attempt_80 : decode M_X3_attempt.2.1 80 = .ok (.imul, 1) := by decide +kernel
theorem dX3_attempt_81 : decode M_X3_attempt.2.1 81 = .ok (.invokevirtual 96, 3) := by decide +kernel
theorem dX3_attempt_84 : decode M_X3_attempt.2.1 84 = .ok (.ifCond .eq 5, 3) := by decide +kernel
theorem dX3_attempt_87 : decode M_X3_attempt.2.1 87 = .ok (.iconst 0, 1) := by decide +kernel
theorem dX3_attempt_88 : decode M_X3_attempt.2.1 88 = .ok (.ireturn, 1) := by decide +kernel
theorem dX3_attempt_89 : decode M_X3_attempt.2.1 89 = .ok (.aload_n 0, 1) := by decide +kernel
theorem dX3_attempt_90 : decode M_X3_attempt.2.1 90 = .ok (.getfield 44, 3) := by decide +kernel
theorem dX3_attempt_93 : decode M_X3_attempt.2.1 93 = .ok (.aload_n 0, 1) := by decide +kernel
theorem dX3_attempt_94 : decode M_X3_attempt.2.1 94 = .ok (.getfield 28, 3) := by decide +kernel
theorem dX3_attempt_97 : decode M_X3_attempt.2.1 97 = .ok (.invokevirtual 54, 3) := by decide +kernel
theorem dX3_attempt_100 : decode M_X3_attempt.2.1 100 = .ok (.aload_n 0, 1) := by decide +kernel
theorem dX3_attempt_101 : decode M_X3_attempt.2.1 101 = .ok (.getfield 32, 3) := by decide +kernel
theorem dX3_attempt_104 : decode M_X3_attempt.2.1 104 = .ok (.if_icmp .eq 5, 3) := by decide +kernel
theorem dX3_attempt_107 : decode M_X3_attempt.2.1 107 = .ok (.iconst 1, 1) := by decide +kernel
theorem dX3_attempt_108 : decode M_X3_attempt.2.1 108 = .ok (.ireturn, 1) := by decide +kernel
theorem dX3_attempt_109 : decode M_X3_attempt.2.1 109 = .ok (.aload_n 0, 1) := by decide +kernel
theorem dX3_attempt_110 : decode M_X3_attempt.2.1 110 = .ok (.getfield 44, 3) := by decide +kernel
theorem dX3_attempt_113 : decode M_X3_attempt.2.1 113 = .ok (.aload_n 0, 1) := by decide +kernel
theorem dX3_attempt_114 : decode M_X3_attempt.2.1 114 = .ok (.getfield 28, 3) := by decide +kernel
theorem dX3_attempt_117 : decode M_X3_attempt.2.1 117 = .ok (.invokevirtual 100, 3) := by decide +kernel
theorem dX3_attempt_120 : decode M_X3_attempt.2.1 120 = .ok (.aload_n 0, 1) := by decide +kernel
theorem dX3_attempt_121 : decode M_X3_attempt.2.1 121 = .ok (.getfield 44, 3) := by decide +kernel
theorem dX3_attempt_124 : decode M_X3_attempt.2.1 124 = .ok (.invokevirtual 103, 3) := by decide +kernel
theorem dX3_attempt_127 : decode M_X3_attempt.2.1 127 = .ok (.istore_n 2, 1) := by decide +kernel
theorem dX3_attempt_128 : decode M_X3_attempt.2.1 128 = .ok (.aload_n 0, 1) := by decide +kernel
theorem dX3_attempt_129 : decode M_X3_attempt.2.1 129 = .ok (.invokevirtual 82, 3) := by decide +kernel
theorem dX3_attempt_132 : decode M_X3_attempt.2.1 132 = .ok (.ifCond .eq 14, 3) := by decide +kernel
theorem dX3_attempt_135 : decode M_X3_attempt.2.1 135 = .ok (.iload_n 2, 1) := by decide +kernel
theorem dX3_attempt_136 : decode M_X3_attempt.2.1 136 = .ok (.iconst 1, 1) := by decide +kernel
theorem dX3_attempt_137 : decode M_X3_attempt.2.1 137 = .ok (.if_icmp .le 7, 3) := by decide +kernel
theorem dX3_attempt_140 : decode M_X3_attempt.2.1 140 = .ok (.iconst 0, 1) := by decide +kernel
theorem dX3_attempt_141 : decode M_X3_attempt.2.1 141 = .ok (.goto 4, 3) := by decide +kernel
theorem dX3_attempt_144 : decode M_X3_attempt.2.1 144 = .ok (.iconst 2, 1) := by decide +kernel
theorem dX3_attempt_145 : decode M_X3_attempt.2.1 145 = .ok (.ireturn, 1) := by decide +kernel
theorem dX3_attempt_146 : decode M_X3_attempt.2.1 146 = .ok (.iload_n 2, 1) := by decide +kernel
theorem dX3_attempt_147 : decode M_X3_attempt.2.1 147 = .ok (.iconst 2, 1) := by decide +kernel
theorem dX3_attempt_148 : decode M_X3_attempt.2.1 148 = .ok (.if_icmp .le 7, 3) := by decide +kernel
theorem dX3_attempt_151 : decode M_X3_attempt.2.1 151 = .ok (.iconst 1, 1) := by decide +kernel
theorem dX3_attempt_152 : decode M_X3_attempt.2.1 152 = .ok (.goto 13, 3) := by decide +kernel
theorem dX3_attempt_155 : decode M_X3_attempt.2.1 155 = .ok (.iload_n 2, 1) := by decide +kernel
theorem dX3_attempt_156 : decode M_X3_attempt.2.1 156 = .ok (.iconst 2, 1) := by decide +kernel
theorem dX3_attempt_157 : decode M_X3_attempt.2.1 157 = .ok (.if_icmp .ne 7, 3) := by decide +kernel
theorem dX3_attempt_160 : decode M_X3_attempt.2.1 160 = .ok (.iconst 2, 1) := by decide +kernel
theorem dX3_attempt_161 : decode M_X3_attempt.2.1 161 = .ok (.goto 4, 3) := by decide +kernel
theorem dX3_attempt_164 : decode M_X3_attempt.2.1 164 = .ok (.iconst 0, 1) := by decide +kernel
theorem dX3_attempt_165 : decode M_X3_attempt.2.1 165 = .ok (.ireturn, 1) := by decide +kernel
def L_X3_attempt_89 (X : ZX) (d n : Nat) (P : Option Value → ZSto → Prop)  (σ : ZSto) : Prop := ZOk n σ → Zn X M_X3_attempt d n P 89 [some (.ref (zB X + 61)), none, none] [] σ
theorem w_X3_attempt {X : ZX} {d n : Nat} {P : Int → ZSto → Prop} {x1 : Int} {σ : ZSto} (hn : 73 ≤ n)  (hx1 : R32 x1)
    (h : ZkV X M_X0_load d n [.ref (zB X + 41), .ref (zB X + 62), iV ((gI σ 61 8) * 3)] σ (fun σ2 => ZkZ X M_X3_isHunterLevel d n [.ref (zB X + 61)] σ2 (fun v6 σ7 => (v6 = 0 → ZkZ X M_X0_put d n [.ref (zB X + 41), iV x1, iV (gI σ7 61 7)] σ7 (fun v14 σ15 => (¬ v14 = 0 → ZkV X M_X0_pack d n [.ref (zB X + 41)] σ15 (fun σ23 => (gI σ23 61 8 ≤ 0 → L_X3_attempt_89 X d n (zpI P) σ23) ∧ (¬ (gI σ23 61 8 ≤ 0) → ZkZ X M_X0_packedAs d n [.ref (zB X + 41), .ref (zB X + 62), iV (((gI σ23 61 8) - 1) * 3)] σ23 (fun v31 σ32 => (v31 = 0 → L_X3_attempt_89 X d n (zpI P) σ32) ∧ (¬ (v31 = 0) → P 0 σ32))))) ∧ (v14 = 0 → P 0 σ15))) ∧ (¬ (v6 = 0) → ZkI X M_X9_otherColour d n [iV (gI σ7 61 7)] σ7 (fun v42 σ43 => ZkZ X M_X0_put d n [.ref (zB X + 41), iV x1, iV v42] σ43 (fun v47 σ48 => (¬ v47 = 0 → ZkV X M_X0_pack d n [.ref (zB X + 41)] σ48 (fun σ56 => (gI σ56 61 8 ≤ 0 → L_X3_attempt_89 X d n (zpI P) σ56) ∧ (¬ (gI σ56 61 8 ≤ 0) → ZkZ X M_X0_packedAs d n [.ref (zB X + 41), .ref (zB X + 62), iV (((gI σ56 61 8) - 1) * 3)] σ56 (fun v64 σ65 => (v64 = 0 → L_X3_attempt_89 X d n (zpI P) σ65) ∧ (¬ (v64 = 0) → P 0 σ65))))) ∧ (v47 = 0 → P 0 σ48))))))) :
    ZkI X M_X3_attempt (d + 1) n [.ref (zB X + 61), iV x1] σ P := by
  refine zk_of (ls := [some (.ref (zB X + 61)), some (iV x1), none]) pl_RX3 (Nat.le_of_ble_eq_true rfl) rfl (fun k0 => ?_)
  unfold Zn
  refine r_aload_n dX3_attempt_0 rfl ?_
  refine r_getP (a := 41) dX3_attempt_1 kf_RX3_44 (zlt hn rfl) sh_61 rfl (k0.1 _ _ _ (zlt hn rfl) p_61_0) ?_
  refine r_aload_n dX3_attempt_4 rfl ?_
  refine r_getP (a := 62) dX3_attempt_5 kf_RX3_11 (zlt hn rfl) sh_61 rfl (k0.1 _ _ _ (zlt hn rfl) p_61_1) ?_
  refine r_aload_n dX3_attempt_8 rfl ?_
  refine r_getI dX3_attempt_9 kf_RX3_35 (zlt hn rfl) sh_61 (Or.inl rfl) rfl ?_
  refine r_iconst dX3_attempt_12 ?_
  refine r_imul dX3_attempt_13 ?_
  refine n_callV (N := M_X0_load) (As := [.ref (zB X + 62), iV ((gI σ 61 8) * 3)]) (st := []) dX3_attempt_14 mk_X0_load km_RX3_78 kd_X0_load rfl (zlt hn rfl) sh_41 (q := (RX0, TX0, 13)) rfl rfl (zFits_rm d n n n (Nat.le_refl n)) (Nat.le_of_ble_eq_true rfl) rfl k0 h ?_
  rintro _ σ2 k3 ⟨rfl, h5⟩
  change Zm _ _ _ _ _ _ 17 _ [] _
  refine r_aload_n dX3_attempt_17 rfl ?_
  refine r_getP (a := 41) dX3_attempt_18 kf_RX3_44 (zlt hn rfl) sh_61 rfl (k3.1 _ _ _ (zlt hn rfl) p_61_0) ?_
  refine r_iload_n dX3_attempt_21 rfl ?_
  refine r_aload_n dX3_attempt_22 rfl ?_
  refine n_callV (N := M_X3_isHunterLevel) (As := []) (st := [iV x1, .ref (zB X + 41)]) dX3_attempt_23 mk_X3_isHunterLevel km_RX3_82 kd_X3_isHunterLevel rfl (zlt hn rfl) sh_61 (q := (RX3, TX3, 11)) rfl rfl (zFits_rm d n n n (Nat.le_refl n)) (Nat.le_of_ble_eq_true rfl) rfl k3 h5 ?_
  rintro _ σ7 k8 ⟨v6, rfl, h9, h10⟩
  change Zm _ _ _ _ _ _ 26 _ [iV v6, iV x1, .ref (zB X + 41)] _
  refine r_if_eq (t := 39) dX3_attempt_26 rfl (r32_z h9)  (fun c11 => ?_) (fun c12 => ?_)
  · have h13 := h10.1 c11
    refine r_aload_n dX3_attempt_39 rfl ?_
    refine r_getI dX3_attempt_40 kf_RX3_32 (zlt hn rfl) sh_61 (Or.inl rfl) rfl ?_
    refine n_callV (N := M_X0_put) (As := [iV x1, iV (gI σ7 61 7)]) (st := []) dX3_attempt_43 mk_X0_put km_RX3_89 kd_X0_put rfl (zlt hn rfl) sh_41 (q := (RX0, TX0, 13)) rfl rfl (zFits_rm d n n n (Nat.le_refl n)) (Nat.le_of_ble_eq_true rfl) rfl k8 h13 ?_
    rintro _ σ15 k16 ⟨v14, rfl, h17, h18⟩
    change Zm _ _ _ _ _ _ 46 _ [iV v14] _
    refine r_if_ne (t := 51) dX3_attempt_46 rfl (r32_z h17)  (fun c19 => ?_) (fun c20 => ?_)
    · have h21 := h18.1 c19
      refine r_aload_n dX3_attempt_51 rfl ?_
      refine r_getP (a := 41) dX3_attempt_52 kf_RX3_44 (zlt hn rfl) sh_61 rfl (k16.1 _ _ _ (zlt hn rfl) p_61_0) ?_
      refine n_callV (N := M_X0_pack) (As := []) (st := []) dX3_attempt_55 mk_X0_pack km_RX3_93 kd_X0_pack rfl (zlt hn rfl) sh_41 (q := (RX0, TX0, 13)) rfl rfl (zFits_rm d n n n (Nat.le_refl n)) (Nat.le_of_ble_eq_true rfl) rfl k16 h21 ?_
      rintro _ σ23 k24 ⟨rfl, h26⟩
      change Zm _ _ _ _ _ _ 58 _ [] _
      refine r_aload_n dX3_attempt_58 rfl ?_
      refine r_getI dX3_attempt_59 kf_RX3_35 (zlt hn rfl) sh_61 (Or.inl rfl) rfl ?_
      refine r_if_le (t := 89) dX3_attempt_62 rfl (k24.2.1 _ _)  (fun c27 => ?_) (fun c28 => ?_)
      · have h29 := h26.1 c27
        exact r_mask [true, false, false] rfl (h29 k24)
      · have h30 := h26.2 c28
        refine r_aload_n dX3_attempt_65 rfl ?_
        refine r_getP (a := 41) dX3_attempt_66 kf_RX3_44 (zlt hn rfl) sh_61 rfl (k24.1 _ _ _ (zlt hn rfl) p_61_0) ?_
        refine r_aload_n dX3_attempt_69 rfl ?_
        refine r_getP (a := 62) dX3_attempt_70 kf_RX3_11 (zlt hn rfl) sh_61 rfl (k24.1 _ _ _ (zlt hn rfl) p_61_1) ?_
        refine r_aload_n dX3_attempt_73 rfl ?_
        refine r_getI dX3_attempt_74 kf_RX3_35 (zlt hn rfl) sh_61 (Or.inl rfl) rfl ?_
        refine r_iconst dX3_attempt_77 ?_
        refine r_isub dX3_attempt_78 ?_
        refine r_iconst dX3_attempt_79 ?_
        refine r_imul dX3_attempt_80 ?_
        refine n_callV (N := M_X0_packedAs) (As := [.ref (zB X + 62), iV (((gI σ23 61 8) - 1) * 3)]) (st := []) dX3_attempt_81 mk_X0_packedAs km_RX3_96 kd_X0_packedAs rfl (zlt hn rfl) sh_41 (q := (RX0, TX0, 13)) rfl rfl (zFits_rm d n n n (Nat.le_refl n)) (Nat.le_of_ble_eq_true rfl) rfl k24 h30 ?_
        rintro _ σ32 k33 ⟨v31, rfl, h34, h35⟩
        change Zm _ _ _ _ _ _ 84 _ [iV v31] _
        refine r_if_eq (t := 89) dX3_attempt_84 rfl (r32_z h34)  (fun c36 => ?_) (fun c37 => ?_)
        · have h38 := h35.1 c36
          exact r_mask [true, false, false] rfl (h38 k33)
        · have h39 := h35.2 c37
          refine r_iconst dX3_attempt_87 ?_
          exact r_ireturn dX3_attempt_88 rfl ⟨k33, _, rfl, (r32c rfl), h39⟩
    · have h40 := h18.2 c20
      refine r_iconst dX3_attempt_49 ?_
      exact r_ireturn dX3_attempt_50 rfl ⟨k16, _, rfl, (r32c rfl), h40⟩
  · have h41 := h10.2 c12
    refine r_aload_n dX3_attempt_29 rfl ?_
    refine r_getI dX3_attempt_30 kf_RX3_32 (zlt hn rfl) sh_61 (Or.inl rfl) rfl ?_
    refine n_callS (N := M_X9_otherColour) (As := [iV (gI σ7 61 7)]) (st := [iV x1, .ref (zB X + 41)]) dX3_attempt_33 mk_X9_otherColour km_RX3_86 kd_X9_otherColour rfl (zFits_rm d n n n (Nat.le_refl n)) (Nat.le_of_ble_eq_true rfl) rfl k8 h41 ?_
    rintro _ σ43 k44 ⟨v42, rfl, h45, h46⟩
    change Zm _ _ _ _ _ _ 36 _ [iV v42, iV x1, .ref (zB X + 41)] _
    refine r_goto (t := 43) dX3_attempt_36 rfl ?_
    refine n_callV (N := M_X0_put) (As := [iV x1, iV v42]) (st := []) dX3_attempt_43 mk_X0_put km_RX3_89 kd_X0_put rfl (zlt hn rfl) sh_41 (q := (RX0, TX0, 13)) rfl rfl (zFits_rm d n n n (Nat.le_refl n)) (Nat.le_of_ble_eq_true rfl) rfl k44 h46 ?_
    rintro _ σ48 k49 ⟨v47, rfl, h50, h51⟩
    change Zm _ _ _ _ _ _ 46 _ [iV v47] _
    refine r_if_ne (t := 51) dX3_attempt_46 rfl (r32_z h50)  (fun c52 => ?_) (fun c53 => ?_)
    · have h54 := h51.1 c52
      refine r_aload_n dX3_attempt_51 rfl ?_
      refine r_getP (a := 41) dX3_attempt_52 kf_RX3_44 (zlt hn rfl) sh_61 rfl (k49.1 _ _ _ (zlt hn rfl) p_61_0) ?_
      refine n_callV (N := M_X0_pack) (As := []) (st := []) dX3_attempt_55 mk_X0_pack km_RX3_93 kd_X0_pack rfl (zlt hn rfl) sh_41 (q := (RX0, TX0, 13)) rfl rfl (zFits_rm d n n n (Nat.le_refl n)) (Nat.le_of_ble_eq_true rfl) rfl k49 h54 ?_
      rintro _ σ56 k57 ⟨rfl, h59⟩
      change Zm _ _ _ _ _ _ 58 _ [] _
      refine r_aload_n dX3_attempt_58 rfl ?_
      refine r_getI dX3_attempt_59 kf_RX3_35 (zlt hn rfl) sh_61 (Or.inl rfl) rfl ?_
      refine r_if_le (t := 89) dX3_attempt_62 rfl (k57.2.1 _ _)  (fun c60 => ?_) (fun c61 => ?_)
      · have h62 := h59.1 c60
        exact r_mask [true, false, false] rfl (h62 k57)
      · have h63 := h59.2 c61
        refine r_aload_n dX3_attempt_65 rfl ?_
        refine r_getP (a := 41) dX3_attempt_66 kf_RX3_44 (zlt hn rfl) sh_61 rfl (k57.1 _ _ _ (zlt hn rfl) p_61_0) ?_
        refine r_aload_n dX3_attempt_69 rfl ?_
        refine r_getP (a := 62) dX3_attempt_70 kf_RX3_11 (zlt hn rfl) sh_61 rfl (k57.1 _ _ _ (zlt hn rfl) p_61_1) ?_
        refine r_aload_n dX3_attempt_73 rfl ?_
        refine r_getI dX3_attempt_74 kf_RX3_35 (zlt hn rfl) sh_61 (Or.inl rfl) rfl ?_
        refine r_iconst dX3_attempt_77 ?_
        refine r_isub dX3_attempt_78 ?_
        refine r_iconst dX3_attempt_79 ?_
        refine r_imul dX3_attempt_80 ?_
        refine n_callV (N := M_X0_packedAs) (As := [.ref (zB X + 62), iV (((gI σ56 61 8) - 1) * 3)]) (st := []) dX3_attempt_81 mk_X0_packedAs km_RX3_96 kd_X0_packedAs rfl (zlt hn rfl) sh_41 (q := (RX0, TX0, 13)) rfl rfl (zFits_rm d n n n (Nat.le_refl n)) (Nat.le_of_ble_eq_true rfl) rfl k57 h63 ?_
        rintro _ σ65 k66 ⟨v64, rfl, h67, h68⟩
        change Zm _ _ _ _ _ _ 84 _ [iV v64] _
        refine r_if_eq (t := 89) dX3_attempt_84 rfl (r32_z h67)  (fun c69 => ?_) (fun c70 => ?_)
        · have h71 := h68.1 c69
          exact r_mask [true, false, false] rfl (h71 k66)
        · have h72 := h68.2 c70
          refine r_iconst dX3_attempt_87 ?_
          exact r_ireturn dX3_attempt_88 rfl ⟨k66, _, rfl, (r32c rfl), h72⟩
    · have h73 := h51.2 c53
      refine r_iconst dX3_attempt_49 ?_
      exact r_ireturn dX3_attempt_50 rfl ⟨k49, _, rfl, (r32c rfl), h73⟩
theorem b_X3_attempt_89 {X : ZX} {d n : Nat} {P : Int → ZSto → Prop}  {σ : ZSto} (hn : 73 ≤ n) 
    (h : ZkI X M_X0_contentOf d n [.ref (zB X + 41), iV (gI σ 61 6)] σ (fun v1 σ2 => (v1 = gI σ2 61 7 → ZkV X M_X0_gatherChain d n [.ref (zB X + 41), iV (gI σ2 61 6)] σ2 (fun σ10 => ZkI X M_X0_liberties d n [.ref (zB X + 41)] σ10 (fun v14 σ15 => ZkZ X M_X3_isHunterLevel d n [.ref (zB X + 61)] σ15 (fun v19 σ20 => (v19 = 0 → (v14 ≤ 2 → (¬ v14 = 2 → P 0 σ20) ∧ (v14 = 2 → P 2 σ20)) ∧ (¬ (v14 ≤ 2) → P 1 σ20)) ∧ (¬ (v19 = 0) → (v14 ≤ 1 → P 2 σ20) ∧ (¬ (v14 ≤ 1) → P 0 σ20)))))) ∧ (¬ (v1 = gI σ2 61 7) → P 1 σ2))) :
    L_X3_attempt_89 X d n (zpI P) σ := by
  intro  k0
  unfold Zn
  refine r_aload_n dX3_attempt_89 rfl ?_
  refine r_getP (a := 41) dX3_attempt_90 kf_RX3_44 (zlt hn rfl) sh_61 rfl (k0.1 _ _ _ (zlt hn rfl) p_61_0) ?_
  refine r_aload_n dX3_attempt_93 rfl ?_
  refine r_getI dX3_attempt_94 kf_RX3_28 (zlt hn rfl) sh_61 (Or.inl rfl) rfl ?_
  refine n_callV (N := M_X0_contentOf) (As := [iV (gI σ 61 6)]) (st := []) dX3_attempt_97 mk_X0_contentOf km_RX3_54 kd_X0_contentOf rfl (zlt hn rfl) sh_41 (q := (RX0, TX0, 13)) rfl rfl (zFits_rm d n n n (Nat.le_refl n)) (Nat.le_of_ble_eq_true rfl) rfl k0 h ?_
  rintro _ σ2 k3 ⟨v1, rfl, h4, h5⟩
  change Zm _ _ _ _ _ _ 100 _ [iV v1] _
  refine r_aload_n dX3_attempt_100 rfl ?_
  refine r_getI dX3_attempt_101 kf_RX3_32 (zlt hn rfl) sh_61 (Or.inl rfl) rfl ?_
  refine r_icmp_eq (t := 109) dX3_attempt_104 rfl h4 (k3.2.1 _ _) (fun c6 => ?_) (fun c7 => ?_)
  · have h8 := h5.1 c6
    refine r_aload_n dX3_attempt_109 rfl ?_
    refine r_getP (a := 41) dX3_attempt_110 kf_RX3_44 (zlt hn rfl) sh_61 rfl (k3.1 _ _ _ (zlt hn rfl) p_61_0) ?_
    refine r_aload_n dX3_attempt_113 rfl ?_
    refine r_getI dX3_attempt_114 kf_RX3_28 (zlt hn rfl) sh_61 (Or.inl rfl) rfl ?_
    refine n_callV (N := M_X0_gatherChain) (As := [iV (gI σ2 61 6)]) (st := []) dX3_attempt_117 mk_X0_gatherChain km_RX3_100 kd_X0_gatherChain rfl (zlt hn rfl) sh_41 (q := (RX0, TX0, 13)) rfl rfl (zFits_rm d n n n (Nat.le_refl n)) (Nat.le_of_ble_eq_true rfl) rfl k3 h8 ?_
    rintro _ σ10 k11 ⟨rfl, h13⟩
    change Zm _ _ _ _ _ _ 120 _ [] _
    refine r_aload_n dX3_attempt_120 rfl ?_
    refine r_getP (a := 41) dX3_attempt_121 kf_RX3_44 (zlt hn rfl) sh_61 rfl (k11.1 _ _ _ (zlt hn rfl) p_61_0) ?_
    refine n_callV (N := M_X0_liberties) (As := []) (st := []) dX3_attempt_124 mk_X0_liberties km_RX3_103 kd_X0_liberties rfl (zlt hn rfl) sh_41 (q := (RX0, TX0, 13)) rfl rfl (zFits_rm d n n n (Nat.le_refl n)) (Nat.le_of_ble_eq_true rfl) rfl k11 h13 ?_
    rintro _ σ15 k16 ⟨v14, rfl, h17, h18⟩
    change Zm _ _ _ _ _ _ 127 _ [iV v14] _
    refine r_istore_n dX3_attempt_127 rfl rfl ?_
    refine r_aload_n dX3_attempt_128 rfl ?_
    refine n_callV (N := M_X3_isHunterLevel) (As := []) (st := []) dX3_attempt_129 mk_X3_isHunterLevel km_RX3_82 kd_X3_isHunterLevel rfl (zlt hn rfl) sh_61 (q := (RX3, TX3, 11)) rfl rfl (zFits_rm d n n n (Nat.le_refl n)) (Nat.le_of_ble_eq_true rfl) rfl k16 h18 ?_
    rintro _ σ20 k21 ⟨v19, rfl, h22, h23⟩
    change Zm _ _ _ _ _ _ 132 _ [iV v19] _
    refine r_if_eq (t := 146) dX3_attempt_132 rfl (r32_z h22)  (fun c24 => ?_) (fun c25 => ?_)
    · have h26 := h23.1 c24
      refine r_iload_n dX3_attempt_146 rfl ?_
      refine r_iconst dX3_attempt_147 ?_
      refine r_icmp_le (t := 155) dX3_attempt_148 rfl h17 (r32c rfl) (fun c27 => ?_) (fun c28 => ?_)
      · have h29 := h26.1 c27
        refine r_iload_n dX3_attempt_155 rfl ?_
        refine r_iconst dX3_attempt_156 ?_
        refine r_icmp_ne (t := 164) dX3_attempt_157 rfl h17 (r32c rfl) (fun c30 => ?_) (fun c31 => ?_)
        · have h32 := h29.1 c30
          refine r_iconst dX3_attempt_164 ?_
          exact r_ireturn dX3_attempt_165 rfl ⟨k21, _, rfl, (r32c rfl), h32⟩
        · have h33 := h29.2 c31
          refine r_iconst dX3_attempt_160 ?_
          refine r_goto (t := 165) dX3_attempt_161 rfl ?_
          exact r_ireturn dX3_attempt_165 rfl ⟨k21, _, rfl, (r32c rfl), h33⟩
      · have h34 := h26.2 c28
        refine r_iconst dX3_attempt_151 ?_
        refine r_goto (t := 165) dX3_attempt_152 rfl ?_
        exact r_ireturn dX3_attempt_165 rfl ⟨k21, _, rfl, (r32c rfl), h34⟩
    · have h35 := h23.2 c25
      refine r_iload_n dX3_attempt_135 rfl ?_
      refine r_iconst dX3_attempt_136 ?_
      refine r_icmp_le (t := 144) dX3_attempt_137 rfl h17 (r32c rfl) (fun c36 => ?_) (fun c37 => ?_)
      · have h38 := h35.1 c36
        refine r_iconst dX3_attempt_144 ?_
        exact r_ireturn dX3_attempt_145 rfl ⟨k21, _, rfl, (r32c rfl), h38⟩
      · have h39 := h35.2 c37
        refine r_iconst dX3_attempt_140 ?_
        refine r_goto (t := 145) dX3_attempt_141 rfl ?_
        exact r_ireturn dX3_attempt_145 rfl ⟨k21, _, rfl, (r32c rfl), h39⟩
  · have h40 := h5.2 c7
    refine r_iconst dX3_attempt_107 ?_
    exact r_ireturn dX3_attempt_108 rfl ⟨k3, _, rfl, (r32c rfl), h40⟩
/-! StoneRoom$Ladder.enterLevel -/
theorem dX3_enterLevel_0 : decode M_X3_enterLevel.2.1 0 = .ok (.iload_n 1, 1) := by decide +kernel
theorem dX3_enterLevel_1 : decode M_X3_enterLevel.2.1 1 = .ok (.ifCond .lt 10, 3) := by decide +kernel
theorem dX3_enterLevel_4 : decode M_X3_enterLevel.2.1 4 = .ok (.iload_n 1, 1) := by decide +kernel
theorem dX3_enterLevel_5 : decode M_X3_enterLevel.2.1 5 = .ok (.sipush 601, 3) := by decide +kernel
theorem dX3_enterLevel_8 : decode M_X3_enterLevel.2.1 8 = .ok (.if_icmp .lt 4, 3) := by decide +kernel
theorem dX3_enterLevel_11 : decode M_X3_enterLevel.2.1 11 = .ok (.return_, 1) := by decide +kernel
theorem dX3_enterLevel_12 : decode M_X3_enterLevel.2.1 12 = .ok (.aload_n 0, 1) := by decide +kernel
theorem dX3_enterLevel_13 : decode M_X3_enterLevel.2.1 13 = .ok (.iload_n 1, 1) := by decide +kernel
theorem dX3_enterLevel_14 : decode M_X3_enterLevel.2.1 14 = .ok (.putfield 35, 3) := by decide +kernel
theorem dX3_enterLevel_17 : decode M_X3_enterLevel.2.1 17 = .ok (.aload_n 0, 1) := by decide +kernel
theorem dX3_enterLevel_18 : decode M_X3_enterLevel.2.1 18 = .ok (.getfield 44, 3) := by decide +kernel
theorem dX3_enterLevel_21 : decode M_X3_enterLevel.2.1 21 = .ok (.aload_n 0, 1) := by decide +kernel
theorem dX3_enterLevel_22 : decode M_X3_enterLevel.2.1 22 = .ok (.getfield 11, 3) := by decide +kernel
theorem dX3_enterLevel_25 : decode M_X3_enterLevel.2.1 25 = .ok (.aload_n 0, 1) := by decide +kernel
theorem dX3_enterLevel_26 : decode M_X3_enterLevel.2.1 26 = .ok (.getfield 35, 3) := by decide +kernel
theorem dX3_enterLevel_29 : decode M_X3_enterLevel.2.1 29 = .ok (.iconst 3, 1) := by decide +kernel
theorem dX3_enterLevel_30 : decode M_X3_enterLevel.2.1 30 = .ok (.imul, 1) := by decide +kernel
theorem dX3_enterLevel_31 : decode M_X3_enterLevel.2.1 31 = .ok (.invokevirtual 106, 3) := by decide +kernel
theorem dX3_enterLevel_34 : decode M_X3_enterLevel.2.1 34 = .ok (.aload_n 0, 1) := by decide +kernel
theorem dX3_enterLevel_35 : decode M_X3_enterLevel.2.1 35 = .ok (.getfield 15, 3) := by decide +kernel
theorem dX3_enterLevel_38 : decode M_X3_enterLevel.2.1 38 = .ok (.aload_n 0, 1) := by decide +kernel
theorem dX3_enterLevel_39 : decode M_X3_enterLevel.2.1 39 = .ok (.getfield 35, 3) := by decide +kernel
theorem dX3_enterLevel_42 : decode M_X3_enterLevel.2.1 42 = .ok (.lconst 0, 1) := by decide +kernel
theorem dX3_enterLevel_43 : decode M_X3_enterLevel.2.1 43 = .ok (.lastore, 1) := by decide +kernel
theorem dX3_enterLevel_44 : decode M_X3_enterLevel.2.1 44 = .ok (.aload_n 0, 1) := by decide +kernel
theorem dX3_enterLevel_45 : decode M_X3_enterLevel.2.1 45 = .ok (.getfield 18, 3) := by decide +kernel
theorem dX3_enterLevel_48 : decode M_X3_enterLevel.2.1 48 = .ok (.aload_n 0, 1) := by decide +kernel
theorem dX3_enterLevel_49 : decode M_X3_enterLevel.2.1 49 = .ok (.getfield 35, 3) := by decide +kernel
theorem dX3_enterLevel_52 : decode M_X3_enterLevel.2.1 52 = .ok (.lconst 0, 1) := by decide +kernel
theorem dX3_enterLevel_53 : decode M_X3_enterLevel.2.1 53 = .ok (.lastore, 1) := by decide +kernel
theorem dX3_enterLevel_54 : decode M_X3_enterLevel.2.1 54 = .ok (.aload_n 0, 1) := by decide +kernel
theorem dX3_enterLevel_55 : decode M_X3_enterLevel.2.1 55 = .ok (.getfield 21, 3) := by decide +kernel
theorem dX3_enterLevel_58 : decode M_X3_enterLevel.2.1 58 = .ok (.aload_n 0, 1) := by decide +kernel
theorem dX3_enterLevel_59 : decode M_X3_enterLevel.2.1 59 = .ok (.getfield 35, 3) := by decide +kernel
theorem dX3_enterLevel_62 : decode M_X3_enterLevel.2.1 62 = .ok (.iconst (-1), 1) := by decide +kernel
theorem dX3_enterLevel_63 : decode M_X3_enterLevel.2.1 63 = .ok (.iastore, 1) := by decide +kernel
theorem dX3_enterLevel_64 : decode M_X3_enterLevel.2.1 64 = .ok (.aload_n 0, 1) := by decide +kernel
theorem dX3_enterLevel_65 : decode M_X3_enterLevel.2.1 65 = .ok (.getfield 25, 3) := by decide +kernel
theorem dX3_enterLevel_68 : decode M_X3_enterLevel.2.1 68 = .ok (.aload_n 0, 1) := by decide +kernel
theorem dX3_enterLevel_69 : decode M_X3_enterLevel.2.1 69 = .ok (.getfield 35, 3) := by decide +kernel
theorem dX3_enterLevel_72 : decode M_X3_enterLevel.2.1 72 = .ok (.iconst (-1), 1) := by decide +kernel
theorem dX3_enterLevel_73 : decode M_X3_enterLevel.2.1 73 = .ok (.iastore, 1) := by decide +kernel
theorem dX3_enterLevel_74 : decode M_X3_enterLevel.2.1 74 = .ok (.aload_n 0, 1) := by decide +kernel
theorem dX3_enterLevel_75 : decode M_X3_enterLevel.2.1 75 = .ok (.getfield 44, 3) := by decide +kernel
theorem dX3_enterLevel_78 : decode M_X3_enterLevel.2.1 78 = .ok (.aload_n 0, 1) := by decide +kernel
theorem dX3_enterLevel_79 : decode M_X3_enterLevel.2.1 79 = .ok (.getfield 28, 3) := by decide +kernel
theorem dX3_enterLevel_82 : decode M_X3_enterLevel.2.1 82 = .ok (.invokevirtual 100, 3) := by decide +kernel
theorem dX3_enterLevel_85 : decode M_X3_enterLevel.2.1 85 = .ok (.aload_n 0, 1) := by decide +kernel
theorem dX3_enterLevel_86 : decode M_X3_enterLevel.2.1 86 = .ok (.invokevirtual 82, 3) := by decide +kernel
theorem dX3_enterLevel_89 : decode M_X3_enterLevel.2.1 89 = .ok (.ifCond .eq 10, 3) := by decide +kernel
theorem dX3_enterLevel_92 : decode M_X3_enterLevel.2.1 92 = .ok (.aload_n 0, 1) := by decide +kernel
theorem dX3_enterLevel_93 : decode M_X3_enterLevel.2.1 93 = .ok (.invokevirtual 109, 3) := by decide +kernel
theorem dX3_enterLevel_96 : decode M_X3_enterLevel.2.1 96 = .ok (.goto 7, 3) := by decide +kernel
theorem dX3_enterLevel_99 : decode M_X3_enterLevel.2.1 99 = .ok (.aload_n 0, 1) := by decide +kernel
theorem dX3_enterLevel_100 : decode M_X3_enterLevel.2.1 100 = .ok (.invokevirtual 112, 3) := by decide +kernel
theorem dX3_enterLevel_103 : decode M_X3_enterLevel.2.1 103 = .ok (.return_, 1) := by decide +kernel
theorem w_X3_enterLevel {X : ZX} {d n : Nat} {P : ZSto → Prop} {x1 : Int} {σ : ZSto} (hn : 73 ≤ n)  (hx1 : R32 x1)
    (h : (x1 < 0 → P σ) ∧ (¬ (x1 < 0) → (x1 < 601 → ZkV X M_X0_store d n [.ref (zB X + 41), .ref (zB X + 62), iV (x1 * 3)] (sI σ 61 8 x1) (fun σ10 => (0 ≤ gI σ10 61 8 ∧ gI σ10 61 8 < 601) ∧ ZkV X M_X0_gatherChain d n [.ref (zB X + 41), iV (gI σ10 61 6)] (sI (sI (sL (sL σ10 63 ((gI σ10 61 8).toNat) ((0 : Int64))) 64 ((gI σ10 61 8).toNat) ((0 : Int64))) 65 ((gI σ10 61 8).toNat) ((-1))) 66 ((gI σ10 61 8).toNat) ((-1))) (fun σ21 => ZkZ X M_X3_isHunterLevel d n [.ref (zB X + 61)] σ21 (fun v25 σ26 => (v25 = 0 → ZkV X M_X3_addRescues d n [.ref (zB X + 61)] σ26 (fun σ34 => P σ34)) ∧ (¬ (v25 = 0) → ZkV X M_X3_addLiberties d n [.ref (zB X + 61)] σ26 (fun σ40 => P σ40)))))) ∧ (¬ (x1 < 601) → P σ))) :
    ZkV X M_X3_enterLevel (d + 1) n [.ref (zB X + 61), iV x1] σ P := by
  refine zk_of (ls := [some (.ref (zB X + 61)), some (iV x1)]) pl_RX3 (Nat.le_of_ble_eq_true rfl) rfl (fun k0 => ?_)
  unfold Zn
  refine r_iload_n dX3_enterLevel_0 rfl ?_
  refine r_if_lt (t := 11) dX3_enterLevel_1 rfl hx1  (fun c1 => ?_) (fun c2 => ?_)
  · have h3 := h.1 c1
    exact r_return dX3_enterLevel_11 rfl ⟨k0, rfl, h3⟩
  · have h4 := h.2 c2
    refine r_iload_n dX3_enterLevel_4 rfl ?_
    refine r_sipush dX3_enterLevel_5 rfl ?_
    refine r_icmp_lt (t := 12) dX3_enterLevel_8 rfl hx1 (r32c rfl) (fun c5 => ?_) (fun c6 => ?_)
    · have h7 := h4.1 c5
      refine r_aload_n dX3_enterLevel_12 rfl ?_
      refine r_iload_n dX3_enterLevel_13 rfl ?_
      refine r_putI dX3_enterLevel_14 kf_RX3_35 (zlt hn rfl) sh_61 rfl (Or.inl rfl) ?_
      have k8 := zok_o (i := 8) (x := x1) k0 sh_61 hx1
      refine r_aload_n dX3_enterLevel_17 rfl ?_
      refine r_getP (a := 41) dX3_enterLevel_18 kf_RX3_44 (zlt hn rfl) sh_61 rfl (k8.1 _ _ _ (zlt hn rfl) p_61_0) ?_
      refine r_aload_n dX3_enterLevel_21 rfl ?_
      refine r_getP (a := 62) dX3_enterLevel_22 kf_RX3_11 (zlt hn rfl) sh_61 rfl (k8.1 _ _ _ (zlt hn rfl) p_61_1) ?_
      refine r_aload_n dX3_enterLevel_25 rfl ?_
      refine r_getI dX3_enterLevel_26 kf_RX3_35 (zlt hn rfl) sh_61 (Or.inl rfl) (gI_same _ _ _ _) ?_
      refine r_iconst dX3_enterLevel_29 ?_
      refine r_imul dX3_enterLevel_30 ?_
      refine n_callV (N := M_X0_store) (As := [.ref (zB X + 62), iV (x1 * 3)]) (st := []) dX3_enterLevel_31 mk_X0_store km_RX3_106 kd_X0_store rfl (zlt hn rfl) sh_41 (q := (RX0, TX0, 13)) rfl rfl (zFits_rm d n n n (Nat.le_refl n)) (Nat.le_of_ble_eq_true rfl) rfl k8 h7 ?_
      rintro _ σ10 k11 ⟨rfl, h13⟩
      change Zm _ _ _ _ _ _ 34 _ [] _
      refine r_aload_n dX3_enterLevel_34 rfl ?_
      refine r_getP (a := 63) dX3_enterLevel_35 kf_RX3_15 (zlt hn rfl) sh_61 rfl (k11.1 _ _ _ (zlt hn rfl) p_61_2) ?_
      refine r_aload_n dX3_enterLevel_38 rfl ?_
      refine r_getI dX3_enterLevel_39 kf_RX3_35 (zlt hn rfl) sh_61 (Or.inl rfl) rfl ?_
      refine r_lconst (v := 0) dX3_enterLevel_42 rfl ?_
      obtain ⟨h14, h15⟩ := h13
      refine r_lastore dX3_enterLevel_43 (zlt hn rfl) sh_63 h14.1 h14.2 ?_
      have k16 := zok_l (a := 63) (i := (gI σ10 61 8).toNat) (x := (0 : Int64)) k11
      refine r_aload_n dX3_enterLevel_44 rfl ?_
      refine r_getP (a := 64) dX3_enterLevel_45 kf_RX3_18 (zlt hn rfl) sh_61 rfl (k16.1 _ _ _ (zlt hn rfl) p_61_3) ?_
      refine r_aload_n dX3_enterLevel_48 rfl ?_
      refine r_getI dX3_enterLevel_49 kf_RX3_35 (zlt hn rfl) sh_61 (Or.inl rfl) (gI_sL _ _ _ _ _ _) ?_
      refine r_lconst (v := 0) dX3_enterLevel_52 rfl ?_
      refine r_lastore dX3_enterLevel_53 (zlt hn rfl) sh_64 h14.1 h14.2 ?_
      have k17 := zok_l (a := 64) (i := (gI σ10 61 8).toNat) (x := (0 : Int64)) k16
      refine r_aload_n dX3_enterLevel_54 rfl ?_
      refine r_getP (a := 65) dX3_enterLevel_55 kf_RX3_21 (zlt hn rfl) sh_61 rfl (k17.1 _ _ _ (zlt hn rfl) p_61_4) ?_
      refine r_aload_n dX3_enterLevel_58 rfl ?_
      refine r_getI dX3_enterLevel_59 kf_RX3_35 (zlt hn rfl) sh_61 (Or.inl rfl) ((gI_sL _ _ _ _ _ _).trans (gI_sL _ _ _ _ _ _)) ?_
      refine r_iconst dX3_enterLevel_62 ?_
      refine r_iastore dX3_enterLevel_63 (zlt hn rfl) sh_65 h14.1 h14.2 ?_
      have k18 := zok_i (i := (gI σ10 61 8).toNat) (x := (-1)) k17 sh_65 (r32c rfl)
      refine r_aload_n dX3_enterLevel_64 rfl ?_
      refine r_getP (a := 66) dX3_enterLevel_65 kf_RX3_25 (zlt hn rfl) sh_61 rfl (k18.1 _ _ _ (zlt hn rfl) p_61_5) ?_
      refine r_aload_n dX3_enterLevel_68 rfl ?_
      refine r_getI dX3_enterLevel_69 kf_RX3_35 (zlt hn rfl) sh_61 (Or.inl rfl) ((gI_c (by decide)).trans ((gI_sL _ _ _ _ _ _).trans (gI_sL _ _ _ _ _ _))) ?_
      refine r_iconst dX3_enterLevel_72 ?_
      refine r_iastore dX3_enterLevel_73 (zlt hn rfl) sh_66 h14.1 h14.2 ?_
      have k19 := zok_i (i := (gI σ10 61 8).toNat) (x := (-1)) k18 sh_66 (r32c rfl)
      refine r_aload_n dX3_enterLevel_74 rfl ?_
      refine r_getP (a := 41) dX3_enterLevel_75 kf_RX3_44 (zlt hn rfl) sh_61 rfl (k19.1 _ _ _ (zlt hn rfl) p_61_0) ?_
      refine r_aload_n dX3_enterLevel_78 rfl ?_
      refine r_getI dX3_enterLevel_79 kf_RX3_28 (zlt hn rfl) sh_61 (Or.inl rfl) ((gI_c (by decide)).trans ((gI_c (by decide)).trans ((gI_sL _ _ _ _ _ _).trans (gI_sL _ _ _ _ _ _)))) ?_
      refine n_callV (N := M_X0_gatherChain) (As := [iV (gI σ10 61 6)]) (st := []) dX3_enterLevel_82 mk_X0_gatherChain km_RX3_100 kd_X0_gatherChain rfl (zlt hn rfl) sh_41 (q := (RX0, TX0, 13)) rfl rfl (zFits_rm d n n n (Nat.le_refl n)) (Nat.le_of_ble_eq_true rfl) rfl k19 h15 ?_
      rintro _ σ21 k22 ⟨rfl, h24⟩
      change Zm _ _ _ _ _ _ 85 _ [] _
      refine r_aload_n dX3_enterLevel_85 rfl ?_
      refine n_callV (N := M_X3_isHunterLevel) (As := []) (st := []) dX3_enterLevel_86 mk_X3_isHunterLevel km_RX3_82 kd_X3_isHunterLevel rfl (zlt hn rfl) sh_61 (q := (RX3, TX3, 11)) rfl rfl (zFits_rm d n n n (Nat.le_refl n)) (Nat.le_of_ble_eq_true rfl) rfl k22 h24 ?_
      rintro _ σ26 k27 ⟨v25, rfl, h28, h29⟩
      change Zm _ _ _ _ _ _ 89 _ [iV v25] _
      refine r_if_eq (t := 99) dX3_enterLevel_89 rfl (r32_z h28)  (fun c30 => ?_) (fun c31 => ?_)
      · have h32 := h29.1 c30
        refine r_aload_n dX3_enterLevel_99 rfl ?_
        refine n_callV (N := M_X3_addRescues) (As := []) (st := []) dX3_enterLevel_100 mk_X3_addRescues km_RX3_112 kd_X3_addRescues rfl (zlt hn rfl) sh_61 (q := (RX3, TX3, 11)) rfl rfl (zFits_rm d n n n (Nat.le_refl n)) (Nat.le_of_ble_eq_true rfl) rfl k27 h32 ?_
        rintro _ σ34 k35 ⟨rfl, h37⟩
        change Zm _ _ _ _ _ _ 103 _ [] _
        exact r_return dX3_enterLevel_103 rfl ⟨k35, rfl, h37⟩
      · have h38 := h29.2 c31
        refine r_aload_n dX3_enterLevel_92 rfl ?_
        refine n_callV (N := M_X3_addLiberties) (As := []) (st := []) dX3_enterLevel_93 mk_X3_addLiberties km_RX3_109 kd_X3_addLiberties rfl (zlt hn rfl) sh_61 (q := (RX3, TX3, 11)) rfl rfl (zFits_rm d n n n (Nat.le_refl n)) (Nat.le_of_ble_eq_true rfl) rfl k27 h38 ?_
        rintro _ σ40 k41 ⟨rfl, h43⟩
        change Zm _ _ _ _ _ _ 96 _ [] _
        refine r_goto (t := 103) dX3_enterLevel_96 rfl ?_
        exact r_return dX3_enterLevel_103 rfl ⟨k41, rfl, h43⟩
    · have h44 := h4.2 c6
      exact r_return dX3_enterLevel_11 rfl ⟨k0, rfl, h44⟩
/-! StoneRoom$Ladder.addLiberties -/
theorem dX3_addLiberties_0 : decode M_X3_addLiberties.2.1 0 = .ok (.iconst 0, 1) := by decide +kernel
theorem dX3_addLiberties_1 : decode M_X3_addLiberties.2.1 1 = .ok (.istore_n 1, 1) := by decide +kernel
theorem dX3_addLiberties_2 : decode M_X3_addLiberties.2.1 2 = .ok (.iload_n 1, 1) := by decide +kernel
theorem dX3_addLiberties_3 : decode M_X3_addLiberties.2.1 3 = .ok (.aload_n 0, 1) := by decide +kernel
theorem dX3_addLiberties_4 : decode M_X3_addLiberties.2.1 4 = .ok (.getfield 44, 3) := by decide +kernel
theorem dX3_addLiberties_7 : decode M_X3_addLiberties.2.1 7 = .ok (.getfield 115, 3) := by decide +kernel
theorem dX3_addLiberties_10 : decode M_X3_addLiberties.2.1 10 = .ok (.if_icmp .ge 43, 3) := by decide +kernel
theorem dX3_addLiberties_13 : decode M_X3_addLiberties.2.1 13 = .ok (.aload_n 0, 1) := by decide +kernel
theorem dX3_addLiberties_14 : decode M_X3_addLiberties.2.1 14 = .ok (.getfield 44, 3) := by decide +kernel
theorem dX3_addLiberties_17 : decode M_X3_addLiberties.2.1 17 = .ok (.iload_n 1, 1) := by decide +kernel
theorem dX3_addLiberties_18 : decode M_X3_addLiberties.2.1 18 = .ok (.invokevirtual 54, 3) := by decide +kernel
theorem dX3_addLiberties_21 : decode M_X3_addLiberties.2.1 21 = .ok (.ifCond .ne 26, 3) := by decide +kernel
theorem dX3_addLiberties_24 : decode M_X3_addLiberties.2.1 24 = .ok (.aload_n 0, 1) := by decide +kernel
theorem dX3_addLiberties_25 : decode M_X3_addLiberties.2.1 25 = .ok (.getfield 44, 3) := by decide +kernel
theorem dX3_addLiberties_28 : decode M_X3_addLiberties.2.1 28 = .ok (.iload_n 1, 1) := by decide +kernel
theorem dX3_addLiberties_29 : decode M_X3_addLiberties.2.1 29 = .ok (.aload_n 0, 1) := by decide +kernel
theorem dX3_addLiberties_30 : decode M_X3_addLiberties.2.1 30 = .ok (.getfield 44, 3) := by decide +kernel
theorem dX3_addLiberties_33 : decode M_X3_addLiberties.2.1 33 = .ok (.getfield 118, 3) := by decide +kernel
theorem dX3_addLiberties_36 : decode M_X3_addLiberties.2.1 36 = .ok (.invokevirtual 121, 3) := by decide +kernel
theorem dX3_addLiberties_39 : decode M_X3_addLiberties.2.1 39 = .ok (.ifCond .eq 8, 3) := by decide +kernel
theorem dX3_addLiberties_42 : decode M_X3_addLiberties.2.1 42 = .ok (.aload_n 0, 1) := by decide +kernel
theorem dX3_addLiberties_43 : decode M_X3_addLiberties.2.1 43 = .ok (.iload_n 1, 1) := by decide +kernel
theorem dX3_addLiberties_44 : decode M_X3_addLiberties.2.1 44 = .ok (.invokevirtual 124, 3) := by decide +kernel
theorem dX3_addLiberties_47 : decode M_X3_addLiberties.2.1 47 = .ok (.iinc 1 1, 3) := by decide +kernel
theorem dX3_addLiberties_50 : decode M_X3_addLiberties.2.1 50 = .ok (.goto (-48), 3) := by decide +kernel
theorem dX3_addLiberties_53 : decode M_X3_addLiberties.2.1 53 = .ok (.return_, 1) := by decide +kernel
def L_X3_addLiberties_2 (X : ZX) (d n : Nat) (P : Option Value → ZSto → Prop) (x1 : Int) (σ : ZSto) : Prop := R32 x1 → ZOk n σ → Zn X M_X3_addLiberties d n P 2 [some (.ref (zB X + 61)), some (iV x1)] [] σ
theorem w_X3_addLiberties {X : ZX} {d n : Nat} {P : ZSto → Prop}  {σ : ZSto} (hn : 73 ≤ n)  
    (h : L_X3_addLiberties_2 X d n (zpV P) 0 σ) :
    ZkV X M_X3_addLiberties (d + 1) n [.ref (zB X + 61)] σ P := by
  refine zk_of (ls := [some (.ref (zB X + 61)), none]) pl_RX3 (Nat.le_of_ble_eq_true rfl) rfl (fun k0 => ?_)
  unfold Zn
  refine r_iconst dX3_addLiberties_0 ?_
  refine r_istore_n dX3_addLiberties_1 rfl rfl ?_
  exact r_mask [true, true] rfl (h (r32c rfl) k0)
theorem b_X3_addLiberties_2 {X : ZX} {d n : Nat} {P : ZSto → Prop} {x1 : Int} {σ : ZSto} (hn : 73 ≤ n) 
    (h : (gI σ 41 8 ≤ x1 → P σ) ∧ (¬ (gI σ 41 8 ≤ x1) → ZkI X M_X0_contentOf d n [.ref (zB X + 41), iV x1] σ (fun v5 σ6 => (¬ v5 = 0 → R32 (x1 + 1) ∧ L_X3_addLiberties_2 X d n (zpV P) (x1 + 1) σ6) ∧ (v5 = 0 → ZkZ X M_X0_onRim d n [.ref (zB X + 41), iV x1, iV (gI σ6 41 10)] σ6 (fun v16 σ17 => (v16 = 0 → R32 (x1 + 1) ∧ L_X3_addLiberties_2 X d n (zpV P) (x1 + 1) σ17) ∧ (¬ (v16 = 0) → ZkV X M_X3_addMove d n [.ref (zB X + 61), iV x1] σ17 (fun σ28 => R32 (x1 + 1) ∧ L_X3_addLiberties_2 X d n (zpV P) (x1 + 1) σ28))))))) :
    L_X3_addLiberties_2 X d n (zpV P) x1 σ := by
  intro hx1 k0
  unfold Zn
  refine r_iload_n dX3_addLiberties_2 rfl ?_
  refine r_aload_n dX3_addLiberties_3 rfl ?_
  refine r_getP (a := 41) dX3_addLiberties_4 kf_RX3_44 (zlt hn rfl) sh_61 rfl (k0.1 _ _ _ (zlt hn rfl) p_61_0) ?_
  refine r_getI dX3_addLiberties_7 kf_RX3_115 (zlt hn rfl) sh_41 (Or.inl rfl) rfl ?_
  refine r_icmp_ge (t := 53) dX3_addLiberties_10 rfl hx1 (k0.2.1 _ _) (fun c1 => ?_) (fun c2 => ?_)
  · have h3 := h.1 c1
    exact r_return dX3_addLiberties_53 rfl ⟨k0, rfl, h3⟩
  · have h4 := h.2 c2
    refine r_aload_n dX3_addLiberties_13 rfl ?_
    refine r_getP (a := 41) dX3_addLiberties_14 kf_RX3_44 (zlt hn rfl) sh_61 rfl (k0.1 _ _ _ (zlt hn rfl) p_61_0) ?_
    refine r_iload_n dX3_addLiberties_17 rfl ?_
    refine n_callV (N := M_X0_contentOf) (As := [iV x1]) (st := []) dX3_addLiberties_18 mk_X0_contentOf km_RX3_54 kd_X0_contentOf rfl (zlt hn rfl) sh_41 (q := (RX0, TX0, 13)) rfl rfl (zFits_rm d n n n (Nat.le_refl n)) (Nat.le_of_ble_eq_true rfl) rfl k0 h4 ?_
    rintro _ σ6 k7 ⟨v5, rfl, h8, h9⟩
    change Zm _ _ _ _ _ _ 21 _ [iV v5] _
    refine r_if_ne (t := 47) dX3_addLiberties_21 rfl h8  (fun c10 => ?_) (fun c11 => ?_)
    · have h12 := h9.1 c10
      refine r_iinc dX3_addLiberties_47 rfl rfl rfl ?_
      refine r_goto (t := 2) dX3_addLiberties_50 rfl ?_
      obtain ⟨h13, h14⟩ := h12
      exact r_mask [true, true] rfl (h14 h13 k7)
    · have h15 := h9.2 c11
      refine r_aload_n dX3_addLiberties_24 rfl ?_
      refine r_getP (a := 41) dX3_addLiberties_25 kf_RX3_44 (zlt hn rfl) sh_61 rfl (k7.1 _ _ _ (zlt hn rfl) p_61_0) ?_
      refine r_iload_n dX3_addLiberties_28 rfl ?_
      refine r_aload_n dX3_addLiberties_29 rfl ?_
      refine r_getP (a := 41) dX3_addLiberties_30 kf_RX3_44 (zlt hn rfl) sh_61 rfl (k7.1 _ _ _ (zlt hn rfl) p_61_0) ?_
      refine r_getI dX3_addLiberties_33 kf_RX3_118 (zlt hn rfl) sh_41 (Or.inl rfl) rfl ?_
      refine n_callV (N := M_X0_onRim) (As := [iV x1, iV (gI σ6 41 10)]) (st := []) dX3_addLiberties_36 mk_X0_onRim km_RX3_121 kd_X0_onRim rfl (zlt hn rfl) sh_41 (q := (RX0, TX0, 13)) rfl rfl (zFits_rm d n n n (Nat.le_refl n)) (Nat.le_of_ble_eq_true rfl) rfl k7 h15 ?_
      rintro _ σ17 k18 ⟨v16, rfl, h19, h20⟩
      change Zm _ _ _ _ _ _ 39 _ [iV v16] _
      refine r_if_eq (t := 47) dX3_addLiberties_39 rfl (r32_z h19)  (fun c21 => ?_) (fun c22 => ?_)
      · have h23 := h20.1 c21
        refine r_iinc dX3_addLiberties_47 rfl rfl rfl ?_
        refine r_goto (t := 2) dX3_addLiberties_50 rfl ?_
        obtain ⟨h24, h25⟩ := h23
        exact r_mask [true, true] rfl (h25 h24 k18)
      · have h26 := h20.2 c22
        refine r_aload_n dX3_addLiberties_42 rfl ?_
        refine r_iload_n dX3_addLiberties_43 rfl ?_
        refine n_callV (N := M_X3_addMove) (As := [iV x1]) (st := []) dX3_addLiberties_44 mk_X3_addMove km_RX3_124 kd_X3_addMove rfl (zlt hn rfl) sh_61 (q := (RX3, TX3, 11)) rfl rfl (zFits_rm d n n n (Nat.le_refl n)) (Nat.le_of_ble_eq_true rfl) rfl k18 h26 ?_
        rintro _ σ28 k29 ⟨rfl, h31⟩
        change Zm _ _ _ _ _ _ 47 _ [] _
        refine r_iinc dX3_addLiberties_47 rfl rfl rfl ?_
        refine r_goto (t := 2) dX3_addLiberties_50 rfl ?_
        obtain ⟨h32, h33⟩ := h31
        exact r_mask [true, true] rfl (h33 h32 k29)
/-! StoneRoom$Ladder.addRescues -/
theorem dX3_addRescues_0 : decode M_X3_addRescues.2.1 0 = .ok (.aload_n 0, 1) := by decide +kernel
theorem dX3_addRescues_1 : decode M_X3_addRescues.2.1 1 = .ok (.getfield 44, 3) := by decide +kernel
theorem dX3_addRescues_4 : decode M_X3_addRescues.2.1 4 = .ok (.getfield 118, 3) := by decide +kernel
theorem dX3_addRescues_7 : decode M_X3_addRescues.2.1 7 = .ok (.istore_n 1, 1) := by decide +kernel
theorem dX3_addRescues_8 : decode M_X3_addRescues.2.1 8 = .ok (.aload_n 0, 1) := by decide +kernel
theorem dX3_addRescues_9 : decode M_X3_addRescues.2.1 9 = .ok (.getfield 44, 3) := by decide +kernel
theorem dX3_addRescues_12 : decode M_X3_addRescues.2.1 12 = .ok (.invokevirtual 103, 3) := by decide +kernel
theorem dX3_addRescues_15 : decode M_X3_addRescues.2.1 15 = .ok (.iconst 1, 1) := by decide +kernel
theorem dX3_addRescues_16 : decode M_X3_addRescues.2.1 16 = .ok (.if_icmp .ne 13, 3) := by decide +kernel
theorem dX3_addRescues_19 : decode M_X3_addRescues.2.1 19 = .ok (.aload_n 0, 1) := by decide +kernel
theorem dX3_addRescues_20 : decode M_X3_addRescues.2.1 20 = .ok (.getfield 44, 3) := by decide +kernel
theorem dX3_addRescues_23 : decode M_X3_addRescues.2.1 23 = .ok (.getfield 127, 3) := by decide +kernel
theorem dX3_addRescues_26 : decode M_X3_addRescues.2.1 26 = .ok (.goto 4, 3) := by decide +kernel
theorem dX3_addRescues_29 : decode M_X3_addRescues.2.1 29 = .ok (.iconst (-1), 1) := by decide +kernel
theorem dX3_addRescues_30 : decode M_X3_addRescues.2.1 30 = .ok (.istore_n 2, 1) := by decide +kernel
theorem dX3_addRescues_31 : decode M_X3_addRescues.2.1 31 = .ok (.aload_n 0, 1) := by decide +kernel
theorem dX3_addRescues_32 : decode M_X3_addRescues.2.1 32 = .ok (.getfield 32, 3) := by decide +kernel
theorem dX3_addRescues_35 : decode M_X3_addRescues.2.1 35 = .ok (.invokestatic 86, 3) := by decide +kernel
theorem dX3_addRescues_38 : decode M_X3_addRescues.2.1 38 = .ok (.istore_n 3, 1) := by decide +kernel
theorem dX3_addRescues_39 : decode M_X3_addRescues.2.1 39 = .ok (.iconst 0, 1) := by decide +kernel
theorem dX3_addRescues_40 : decode M_X3_addRescues.2.1 40 = .ok (.istore 4, 2) := by decide +kernel
theorem dX3_addRescues_42 : decode M_X3_addRescues.2.1 42 = .ok (.iload 4, 2) := by decide +kernel
theorem dX3_addRescues_44 : decode M_X3_addRescues.2.1 44 = .ok (.aload_n 0, 1) := by decide +kernel
theorem dX3_addRescues_45 : decode M_X3_addRescues.2.1 45 = .ok (.getfield 44, 3) := by decide +kernel
theorem dX3_addRescues_48 : decode M_X3_addRescues.2.1 48 = .ok (.getfield 115, 3) := by decide +kernel
theorem dX3_addRescues_51 : decode M_X3_addRescues.2.1 51 = .ok (.if_icmp .ge 79, 3) := by decide +kernel
theorem dX3_addRescues_54 : decode M_X3_addRescues.2.1 54 = .ok (.aload_n 0, 1) := by decide +kernel
theorem dX3_addRescues_55 : decode M_X3_addRescues.2.1 55 = .ok (.getfield 44, 3) := by decide +kernel
theorem dX3_addRescues_58 : decode M_X3_addRescues.2.1 58 = .ok (.iload 4, 2) := by decide +kernel
theorem dX3_addRescues_60 : decode M_X3_addRescues.2.1 60 = .ok (.invokevirtual 54, 3) := by decide +kernel
theorem dX3_addRescues_63 : decode M_X3_addRescues.2.1 63 = .ok (.iload_n 3, 1) := by decide +kernel
theorem dX3_addRescues_64 : decode M_X3_addRescues.2.1 64 = .ok (.if_icmp .ne 60, 3) := by decide +kernel
theorem dX3_addRescues_67 : decode M_X3_addRescues.2.1 67 = .ok (.aload_n 0, 1) := by decide +kernel
theorem dX3_addRescues_68 : decode M_X3_addRescues.2.1 68 = .ok (.getfield 44, 3) := by decide +kernel
theorem dX3_addRescues_71 : decode M_X3_addRescues.2.1 71 = .ok (.iload 4, 2) := by decide +kernel
theorem dX3_addRescues_73 : decode M_X3_addRescues.2.1 73 = .ok (.iload_n 1, 1) := by decide +kernel
theorem dX3_addRescues_74 : decode M_X3_addRescues.2.1 74 = .ok (.invokevirtual 121, 3) := by decide +kernel
theorem dX3_addRescues_77 : decode M_X3_addRescues.2.1 77 = .ok (.ifCond .eq 47, 3) := by decide +kernel
theorem dX3_addRescues_80 : decode M_X3_addRescues.2.1 80 = .ok (.aload_n 0, 1) := by decide +kernel
theorem dX3_addRescues_81 : decode M_X3_addRescues.2.1 81 = .ok (.getfield 44, 3) := by decide +kernel
theorem dX3_addRescues_84 : decode M_X3_addRescues.2.1 84 = .ok (.iload 4, 2) := by decide +kernel
theorem dX3_addRescues_86 : decode M_X3_addRescues.2.1 86 = .ok (.iload_n 1, 1) := by decide +kernel
theorem dX3_addRescues_87 : decode M_X3_addRescues.2.1 87 = .ok (.invokevirtual 130, 3) := by decide +kernel
theorem dX3_addRescues_90 : decode M_X3_addRescues.2.1 90 = .ok (.ifCond .ne 34, 3) := by decide +kernel
theorem dX3_addRescues_93 : decode M_X3_addRescues.2.1 93 = .ok (.aload_n 0, 1) := by decide +kernel
theorem dX3_addRescues_94 : decode M_X3_addRescues.2.1 94 = .ok (.getfield 44, 3) := by decide +kernel
theorem dX3_addRescues_97 : decode M_X3_addRescues.2.1 97 = .ok (.iload 4, 2) := by decide +kernel
theorem dX3_addRescues_99 : decode M_X3_addRescues.2.1 99 = .ok (.invokevirtual 100, 3) := by decide +kernel
theorem dX3_addRescues_102 : decode M_X3_addRescues.2.1 102 = .ok (.aload_n 0, 1) := by decide +kernel
theorem dX3_addRescues_103 : decode M_X3_addRescues.2.1 103 = .ok (.getfield 44, 3) := by decide +kernel
theorem dX3_addRescues_106 : decode M_X3_addRescues.2.1 106 = .ok (.invokevirtual 103, 3) := by decide +kernel
theorem dX3_addRescues_109 : decode M_X3_addRescues.2.1 109 = .ok (.iconst 1, 1) := by decide +kernel
theorem dX3_addRescues_110 : decode M_X3_addRescues.2.1 110 = .ok (.if_icmp .ne 14, 3) := by decide +kernel
theorem dX3_addRescues_113 : decode M_X3_addRescues.2.1 113 = .ok (.aload_n 0, 1) := by decide +kernel
theorem dX3_addRescues_114 : decode M_X3_addRescues.2.1 114 = .ok (.aload_n 0, 1) := by decide +kernel
theorem dX3_addRescues_115 : decode M_X3_addRescues.2.1 115 = .ok (.getfield 44, 3) := by decide +kernel
theorem dX3_addRescues_118 : decode M_X3_addRescues.2.1 118 = .ok (.getfield 127, 3) := by decide +kernel
theorem dX3_addRescues_121 : decode M_X3_addRescues.2.1 121 = .ok (.invokevirtual 124, 3) := by decide +kernel
theorem dX3_addRescues_124 : decode M_X3_addRescues.2.1 124 = .ok (.iinc 4 1, 3) := by decide +kernel
theorem dX3_addRescues_127 : decode M_X3_addRescues.2.1 127 = .ok (.goto (-85), 3) := by decide +kernel
theorem dX3_addRescues_130 : decode M_X3_addRescues.2.1 130 = .ok (.aload_n 0, 1) := by decide +kernel
theorem dX3_addRescues_131 : decode M_X3_addRescues.2.1 131 = .ok (.getfield 21, 3) := by decide +kernel
theorem dX3_addRescues_134 : decode M_X3_addRescues.2.1 134 = .ok (.aload_n 0, 1) := by decide +kernel
theorem dX3_addRescues_135 : decode M_X3_addRescues.2.1 135 = .ok (.getfield 35, 3) := by decide +kernel
theorem dX3_addRescues_138 : decode M_X3_addRescues.2.1 138 = .ok (.iload_n 2, 1) := by decide +kernel
theorem dX3_addRescues_139 : decode M_X3_addRescues.2.1 139 = .ok (.iconst (-1), 1) := by decide +kernel
theorem dX3_addRescues_140 : decode M_X3_addRescues.2.1 140 = .ok (.if_icmp .eq 11, 3) := by decide +kernel
theorem dX3_addRescues_143 : decode M_X3_addRescues.2.1 143 = .ok (.aload_n 0, 1) := by decide +kernel
theorem dX3_addRescues_144 : decode M_X3_addRescues.2.1 144 = .ok (.iload_n 2, 1) := by decide +kernel
theorem dX3_addRescues_145 : decode M_X3_addRescues.2.1 145 = .ok (.invokevirtual 133, 3) := by decide +kernel
theorem dX3_addRescues_148 : decode M_X3_addRescues.2.1 148 = .ok (.ifCond .eq 7, 3) := by decide +kernel
theorem dX3_addRescues_151 : decode M_X3_addRescues.2.1 151 = .ok (.iconst (-1), 1) := by decide +kernel
theorem dX3_addRescues_152 : decode M_X3_addRescues.2.1 152 = .ok (.goto 4, 3) := by decide +kernel
theorem dX3_addRescues_155 : decode M_X3_addRescues.2.1 155 = .ok (.iload_n 2, 1) := by decide +kernel
theorem dX3_addRescues_156 : decode M_X3_addRescues.2.1 156 = .ok (.iastore, 1) := by decide +kernel
theorem dX3_addRescues_157 : decode M_X3_addRescues.2.1 157 = .ok (.return_, 1) := by decide +kernel
def L_X3_addRescues_42 (X : ZX) (d n : Nat) (P : Option Value → ZSto → Prop) (x1 : Int) (x2 : Int) (x3 : Int) (x4 : Int) (σ : ZSto) : Prop := R32 x1 → R32 x2 → R32 x3 → R32 x4 → ZOk n σ → Zn X M_X3_addRescues d n P 42 [some (.ref (zB X + 61)), some (iV x1), some (iV x2), some (iV x3), some (iV x4)] [] σ
theorem w_X3_addRescues {X : ZX} {d n : Nat} {P : ZSto → Prop}  {σ : ZSto} (hn : 73 ≤ n)  
    (h : (∀ y1 : Int, y1 = gI σ 41 10 → ZkI X M_X0_liberties d n [.ref (zB X + 41)] σ (fun v4 σ5 => (¬ v4 = 1 → ZkI X M_X9_otherColour d n [iV (gI σ5 61 7)] σ5 (fun v12 σ13 => L_X3_addRescues_42 X d n (zpV P) y1 ((-1)) v12 0 σ13)) ∧ (v4 = 1 → (∀ y18 : Int, y18 = gI σ5 41 11 → ZkI X M_X9_otherColour d n [iV (gI σ5 61 7)] σ5 (fun v21 σ22 => L_X3_addRescues_42 X d n (zpV P) y1 y18 v21 0 σ22)))))) :
    ZkV X M_X3_addRescues (d + 1) n [.ref (zB X + 61)] σ P := by
  refine zk_of (ls := [some (.ref (zB X + 61)), none, none, none, none]) pl_RX3 (Nat.le_of_ble_eq_true rfl) rfl (fun k0 => ?_)
  unfold Zn
  refine r_aload_n dX3_addRescues_0 rfl ?_
  refine r_getP (a := 41) dX3_addRescues_1 kf_RX3_44 (zlt hn rfl) sh_61 rfl (k0.1 _ _ _ (zlt hn rfl) p_61_0) ?_
  refine r_getI dX3_addRescues_4 kf_RX3_118 (zlt hn rfl) sh_41 (Or.inl rfl) rfl ?_
  refine r_name (fun y1 e2 => ?_)
  have h3 := h y1 e2
  refine r_istore_n dX3_addRescues_7 rfl rfl ?_
  refine r_aload_n dX3_addRescues_8 rfl ?_
  refine r_getP (a := 41) dX3_addRescues_9 kf_RX3_44 (zlt hn rfl) sh_61 rfl (k0.1 _ _ _ (zlt hn rfl) p_61_0) ?_
  refine n_callV (N := M_X0_liberties) (As := []) (st := []) dX3_addRescues_12 mk_X0_liberties km_RX3_103 kd_X0_liberties rfl (zlt hn rfl) sh_41 (q := (RX0, TX0, 13)) rfl rfl (zFits_rm d n n n (Nat.le_refl n)) (Nat.le_of_ble_eq_true rfl) rfl k0 h3 ?_
  rintro _ σ5 k6 ⟨v4, rfl, h7, h8⟩
  change Zm _ _ _ _ _ _ 15 _ [iV v4] _
  refine r_iconst dX3_addRescues_15 ?_
  refine r_icmp_ne (t := 29) dX3_addRescues_16 rfl h7 (r32c rfl) (fun c9 => ?_) (fun c10 => ?_)
  · have h11 := h8.1 c9
    refine r_iconst dX3_addRescues_29 ?_
    refine r_istore_n dX3_addRescues_30 rfl rfl ?_
    refine r_aload_n dX3_addRescues_31 rfl ?_
    refine r_getI dX3_addRescues_32 kf_RX3_32 (zlt hn rfl) sh_61 (Or.inl rfl) rfl ?_
    refine n_callS (N := M_X9_otherColour) (As := [iV (gI σ5 61 7)]) (st := []) dX3_addRescues_35 mk_X9_otherColour km_RX3_86 kd_X9_otherColour rfl (zFits_rm d n n n (Nat.le_refl n)) (Nat.le_of_ble_eq_true rfl) rfl k6 h11 ?_
    rintro _ σ13 k14 ⟨v12, rfl, h15, h16⟩
    change Zm _ _ _ _ _ _ 38 _ [iV v12] _
    refine r_istore_n dX3_addRescues_38 rfl rfl ?_
    refine r_iconst dX3_addRescues_39 ?_
    refine r_istore dX3_addRescues_40 rfl rfl ?_
    exact r_mask [true, true, true, true, true] rfl (h16 (by rw [e2]; exact (k0.2.1 _ _)) (r32c rfl) h15 (r32c rfl) k14)
  · have h17 := h8.2 c10
    refine r_aload_n dX3_addRescues_19 rfl ?_
    refine r_getP (a := 41) dX3_addRescues_20 kf_RX3_44 (zlt hn rfl) sh_61 rfl (k6.1 _ _ _ (zlt hn rfl) p_61_0) ?_
    refine r_getI dX3_addRescues_23 kf_RX3_127 (zlt hn rfl) sh_41 (Or.inl rfl) rfl ?_
    refine r_goto (t := 30) dX3_addRescues_26 rfl ?_
    refine r_name (fun y18 e19 => ?_)
    have h20 := h17 y18 e19
    refine r_istore_n dX3_addRescues_30 rfl rfl ?_
    refine r_aload_n dX3_addRescues_31 rfl ?_
    refine r_getI dX3_addRescues_32 kf_RX3_32 (zlt hn rfl) sh_61 (Or.inl rfl) rfl ?_
    refine n_callS (N := M_X9_otherColour) (As := [iV (gI σ5 61 7)]) (st := []) dX3_addRescues_35 mk_X9_otherColour km_RX3_86 kd_X9_otherColour rfl (zFits_rm d n n n (Nat.le_refl n)) (Nat.le_of_ble_eq_true rfl) rfl k6 h20 ?_
    rintro _ σ22 k23 ⟨v21, rfl, h24, h25⟩
    change Zm _ _ _ _ _ _ 38 _ [iV v21] _
    refine r_istore_n dX3_addRescues_38 rfl rfl ?_
    refine r_iconst dX3_addRescues_39 ?_
    refine r_istore dX3_addRescues_40 rfl rfl ?_
    exact r_mask [true, true, true, true, true] rfl (h25 (by rw [e2]; exact (k0.2.1 _ _)) (by rw [e19]; exact (k6.2.1 _ _)) h24 (r32c rfl) k23)
theorem b_X3_addRescues_42 {X : ZX} {d n : Nat} {P : ZSto → Prop} {x1 : Int} {x2 : Int} {x3 : Int} {x4 : Int} {σ : ZSto} (hn : 73 ≤ n) 
    (h : (gI σ 41 8 ≤ x4 → (x2 = (-1) → (0 ≤ gI σ 61 8 ∧ gI σ 61 8 < 601) ∧ P (sI σ 65 ((gI σ 61 8).toNat) ((-1)))) ∧ (¬ (x2 = (-1)) → ZkZ X M_X3_isMove d n [.ref (zB X + 61), iV x2] σ (fun v11 σ12 => (v11 = 0 → (0 ≤ gI σ 61 8 ∧ gI σ 61 8 < 601) ∧ P (sI σ12 65 ((gI σ 61 8).toNat) x2)) ∧ (¬ (v11 = 0) → (0 ≤ gI σ 61 8 ∧ gI σ 61 8 < 601) ∧ P (sI σ12 65 ((gI σ 61 8).toNat) ((-1))))))) ∧ (¬ (gI σ 41 8 ≤ x4) → ZkI X M_X0_contentOf d n [.ref (zB X + 41), iV x4] σ (fun v27 σ28 => (¬ v27 = x3 → R32 (x4 + 1) ∧ L_X3_addRescues_42 X d n (zpV P) x1 x2 x3 (x4 + 1) σ28) ∧ (v27 = x3 → ZkZ X M_X0_onRim d n [.ref (zB X + 41), iV x4, iV x1] σ28 (fun v38 σ39 => (v38 = 0 → R32 (x4 + 1) ∧ L_X3_addRescues_42 X d n (zpV P) x1 x2 x3 (x4 + 1) σ39) ∧ (¬ (v38 = 0) → ZkZ X M_X0_gatheredSince d n [.ref (zB X + 41), iV x4, iV x1] σ39 (fun v49 σ50 => (¬ v49 = 0 → R32 (x4 + 1) ∧ L_X3_addRescues_42 X d n (zpV P) x1 x2 x3 (x4 + 1) σ50) ∧ (v49 = 0 → ZkV X M_X0_gatherChain d n [.ref (zB X + 41), iV x4] σ50 (fun σ61 => ZkI X M_X0_liberties d n [.ref (zB X + 41)] σ61 (fun v65 σ66 => (¬ v65 = 1 → R32 (x4 + 1) ∧ L_X3_addRescues_42 X d n (zpV P) x1 x2 x3 (x4 + 1) σ66) ∧ (v65 = 1 → ZkV X M_X3_addMove d n [.ref (zB X + 61), iV (gI σ66 41 11)] σ66 (fun σ77 => R32 (x4 + 1) ∧ L_X3_addRescues_42 X d n (zpV P) x1 x2 x3 (x4 + 1) σ77)))))))))))) :
    L_X3_addRescues_42 X d n (zpV P) x1 x2 x3 x4 σ := by
  intro hx1 hx2 hx3 hx4 k0
  unfold Zn
  refine r_iload dX3_addRescues_42 rfl ?_
  refine r_aload_n dX3_addRescues_44 rfl ?_
  refine r_getP (a := 41) dX3_addRescues_45 kf_RX3_44 (zlt hn rfl) sh_61 rfl (k0.1 _ _ _ (zlt hn rfl) p_61_0) ?_
  refine r_getI dX3_addRescues_48 kf_RX3_115 (zlt hn rfl) sh_41 (Or.inl rfl) rfl ?_
  refine r_icmp_ge (t := 130) dX3_addRescues_51 rfl hx4 (k0.2.1 _ _) (fun c1 => ?_) (fun c2 => ?_)
  · have h3 := h.1 c1
    refine r_aload_n dX3_addRescues_130 rfl ?_
    refine r_getP (a := 65) dX3_addRescues_131 kf_RX3_21 (zlt hn rfl) sh_61 rfl (k0.1 _ _ _ (zlt hn rfl) p_61_4) ?_
    refine r_aload_n dX3_addRescues_134 rfl ?_
    refine r_getI dX3_addRescues_135 kf_RX3_35 (zlt hn rfl) sh_61 (Or.inl rfl) rfl ?_
    refine r_iload_n dX3_addRescues_138 rfl ?_
    refine r_iconst dX3_addRescues_139 ?_
    refine r_icmp_eq (t := 151) dX3_addRescues_140 rfl hx2 (r32c rfl) (fun c4 => ?_) (fun c5 => ?_)
    · have h6 := h3.1 c4
      refine r_iconst dX3_addRescues_151 ?_
      refine r_goto (t := 156) dX3_addRescues_152 rfl ?_
      obtain ⟨h7, h8⟩ := h6
      refine r_iastore dX3_addRescues_156 (zlt hn rfl) sh_65 h7.1 h7.2 ?_
      have k9 := zok_i (i := (gI σ 61 8).toNat) (x := (-1)) k0 sh_65 (r32c rfl)
      exact r_return dX3_addRescues_157 rfl ⟨k9, rfl, h8⟩
    · have h10 := h3.2 c5
      refine r_aload_n dX3_addRescues_143 rfl ?_
      refine r_iload_n dX3_addRescues_144 rfl ?_
      refine n_callV (N := M_X3_isMove) (As := [iV x2]) (st := [iV (gI σ 61 8), .ref (zB X + 65)]) dX3_addRescues_145 mk_X3_isMove km_RX3_133 kd_X3_isMove rfl (zlt hn rfl) sh_61 (q := (RX3, TX3, 11)) rfl rfl (zFits_rm d n n n (Nat.le_refl n)) (Nat.le_of_ble_eq_true rfl) rfl k0 h10 ?_
      rintro _ σ12 k13 ⟨v11, rfl, h14, h15⟩
      change Zm _ _ _ _ _ _ 148 _ [iV v11, iV (gI σ 61 8), .ref (zB X + 65)] _
      refine r_if_eq (t := 155) dX3_addRescues_148 rfl (r32_z h14)  (fun c16 => ?_) (fun c17 => ?_)
      · have h18 := h15.1 c16
        refine r_iload_n dX3_addRescues_155 rfl ?_
        obtain ⟨h19, h20⟩ := h18
        refine r_iastore dX3_addRescues_156 (zlt hn rfl) sh_65 h19.1 h19.2 ?_
        have k21 := zok_i (i := (gI σ 61 8).toNat) (x := x2) k13 sh_65 hx2
        exact r_return dX3_addRescues_157 rfl ⟨k21, rfl, h20⟩
      · have h22 := h15.2 c17
        refine r_iconst dX3_addRescues_151 ?_
        refine r_goto (t := 156) dX3_addRescues_152 rfl ?_
        obtain ⟨h23, h24⟩ := h22
        refine r_iastore dX3_addRescues_156 (zlt hn rfl) sh_65 h23.1 h23.2 ?_
        have k25 := zok_i (i := (gI σ 61 8).toNat) (x := (-1)) k13 sh_65 (r32c rfl)
        exact r_return dX3_addRescues_157 rfl ⟨k25, rfl, h24⟩
  · have h26 := h.2 c2
    refine r_aload_n dX3_addRescues_54 rfl ?_
    refine r_getP (a := 41) dX3_addRescues_55 kf_RX3_44 (zlt hn rfl) sh_61 rfl (k0.1 _ _ _ (zlt hn rfl) p_61_0) ?_
    refine r_iload dX3_addRescues_58 rfl ?_
    refine n_callV (N := M_X0_contentOf) (As := [iV x4]) (st := []) dX3_addRescues_60 mk_X0_contentOf km_RX3_54 kd_X0_contentOf rfl (zlt hn rfl) sh_41 (q := (RX0, TX0, 13)) rfl rfl (zFits_rm d n n n (Nat.le_refl n)) (Nat.le_of_ble_eq_true rfl) rfl k0 h26 ?_
    rintro _ σ28 k29 ⟨v27, rfl, h30, h31⟩
    change Zm _ _ _ _ _ _ 63 _ [iV v27] _
    refine r_iload_n dX3_addRescues_63 rfl ?_
    refine r_icmp_ne (t := 124) dX3_addRescues_64 rfl h30 hx3 (fun c32 => ?_) (fun c33 => ?_)
    · have h34 := h31.1 c32
      refine r_iinc dX3_addRescues_124 rfl rfl rfl ?_
      refine r_goto (t := 42) dX3_addRescues_127 rfl ?_
      obtain ⟨h35, h36⟩ := h34
      exact r_mask [true, true, true, true, true] rfl (h36 hx1 hx2 hx3 h35 k29)
    · have h37 := h31.2 c33
      refine r_aload_n dX3_addRescues_67 rfl ?_
      refine r_getP (a := 41) dX3_addRescues_68 kf_RX3_44 (zlt hn rfl) sh_61 rfl (k29.1 _ _ _ (zlt hn rfl) p_61_0) ?_
      refine r_iload dX3_addRescues_71 rfl ?_
      refine r_iload_n dX3_addRescues_73 rfl ?_
      refine n_callV (N := M_X0_onRim) (As := [iV x4, iV x1]) (st := []) dX3_addRescues_74 mk_X0_onRim km_RX3_121 kd_X0_onRim rfl (zlt hn rfl) sh_41 (q := (RX0, TX0, 13)) rfl rfl (zFits_rm d n n n (Nat.le_refl n)) (Nat.le_of_ble_eq_true rfl) rfl k29 h37 ?_
      rintro _ σ39 k40 ⟨v38, rfl, h41, h42⟩
      change Zm _ _ _ _ _ _ 77 _ [iV v38] _
      refine r_if_eq (t := 124) dX3_addRescues_77 rfl (r32_z h41)  (fun c43 => ?_) (fun c44 => ?_)
      · have h45 := h42.1 c43
        refine r_iinc dX3_addRescues_124 rfl rfl rfl ?_
        refine r_goto (t := 42) dX3_addRescues_127 rfl ?_
        obtain ⟨h46, h47⟩ := h45
        exact r_mask [true, true, true, true, true] rfl (h47 hx1 hx2 hx3 h46 k40)
      · have h48 := h42.2 c44
        refine r_aload_n dX3_addRescues_80 rfl ?_
        refine r_getP (a := 41) dX3_addRescues_81 kf_RX3_44 (zlt hn rfl) sh_61 rfl (k40.1 _ _ _ (zlt hn rfl) p_61_0) ?_
        refine r_iload dX3_addRescues_84 rfl ?_
        refine r_iload_n dX3_addRescues_86 rfl ?_
        refine n_callV (N := M_X0_gatheredSince) (As := [iV x4, iV x1]) (st := []) dX3_addRescues_87 mk_X0_gatheredSince km_RX3_130 kd_X0_gatheredSince rfl (zlt hn rfl) sh_41 (q := (RX0, TX0, 13)) rfl rfl (zFits_rm d n n n (Nat.le_refl n)) (Nat.le_of_ble_eq_true rfl) rfl k40 h48 ?_
        rintro _ σ50 k51 ⟨v49, rfl, h52, h53⟩
        change Zm _ _ _ _ _ _ 90 _ [iV v49] _
        refine r_if_ne (t := 124) dX3_addRescues_90 rfl (r32_z h52)  (fun c54 => ?_) (fun c55 => ?_)
        · have h56 := h53.1 c54
          refine r_iinc dX3_addRescues_124 rfl rfl rfl ?_
          refine r_goto (t := 42) dX3_addRescues_127 rfl ?_
          obtain ⟨h57, h58⟩ := h56
          exact r_mask [true, true, true, true, true] rfl (h58 hx1 hx2 hx3 h57 k51)
        · have h59 := h53.2 c55
          refine r_aload_n dX3_addRescues_93 rfl ?_
          refine r_getP (a := 41) dX3_addRescues_94 kf_RX3_44 (zlt hn rfl) sh_61 rfl (k51.1 _ _ _ (zlt hn rfl) p_61_0) ?_
          refine r_iload dX3_addRescues_97 rfl ?_
          refine n_callV (N := M_X0_gatherChain) (As := [iV x4]) (st := []) dX3_addRescues_99 mk_X0_gatherChain km_RX3_100 kd_X0_gatherChain rfl (zlt hn rfl) sh_41 (q := (RX0, TX0, 13)) rfl rfl (zFits_rm d n n n (Nat.le_refl n)) (Nat.le_of_ble_eq_true rfl) rfl k51 h59 ?_
          rintro _ σ61 k62 ⟨rfl, h64⟩
          change Zm _ _ _ _ _ _ 102 _ [] _
          refine r_aload_n dX3_addRescues_102 rfl ?_
          refine r_getP (a := 41) dX3_addRescues_103 kf_RX3_44 (zlt hn rfl) sh_61 rfl (k62.1 _ _ _ (zlt hn rfl) p_61_0) ?_
          refine n_callV (N := M_X0_liberties) (As := []) (st := []) dX3_addRescues_106 mk_X0_liberties km_RX3_103 kd_X0_liberties rfl (zlt hn rfl) sh_41 (q := (RX0, TX0, 13)) rfl rfl (zFits_rm d n n n (Nat.le_refl n)) (Nat.le_of_ble_eq_true rfl) rfl k62 h64 ?_
          rintro _ σ66 k67 ⟨v65, rfl, h68, h69⟩
          change Zm _ _ _ _ _ _ 109 _ [iV v65] _
          refine r_iconst dX3_addRescues_109 ?_
          refine r_icmp_ne (t := 124) dX3_addRescues_110 rfl h68 (r32c rfl) (fun c70 => ?_) (fun c71 => ?_)
          · have h72 := h69.1 c70
            refine r_iinc dX3_addRescues_124 rfl rfl rfl ?_
            refine r_goto (t := 42) dX3_addRescues_127 rfl ?_
            obtain ⟨h73, h74⟩ := h72
            exact r_mask [true, true, true, true, true] rfl (h74 hx1 hx2 hx3 h73 k67)
          · have h75 := h69.2 c71
            refine r_aload_n dX3_addRescues_113 rfl ?_
            refine r_aload_n dX3_addRescues_114 rfl ?_
            refine r_getP (a := 41) dX3_addRescues_115 kf_RX3_44 (zlt hn rfl) sh_61 rfl (k67.1 _ _ _ (zlt hn rfl) p_61_0) ?_
            refine r_getI dX3_addRescues_118 kf_RX3_127 (zlt hn rfl) sh_41 (Or.inl rfl) rfl ?_
            refine n_callV (N := M_X3_addMove) (As := [iV (gI σ66 41 11)]) (st := []) dX3_addRescues_121 mk_X3_addMove km_RX3_124 kd_X3_addMove rfl (zlt hn rfl) sh_61 (q := (RX3, TX3, 11)) rfl rfl (zFits_rm d n n n (Nat.le_refl n)) (Nat.le_of_ble_eq_true rfl) rfl k67 h75 ?_
            rintro _ σ77 k78 ⟨rfl, h80⟩
            change Zm _ _ _ _ _ _ 124 _ [] _
            refine r_iinc dX3_addRescues_124 rfl rfl rfl ?_
            refine r_goto (t := 42) dX3_addRescues_127 rfl ?_
            obtain ⟨h81, h82⟩ := h80
            exact r_mask [true, true, true, true, true] rfl (h82 hx1 hx2 hx3 h81 k78)
/-! StoneRoom$Ladder.addMove -/
theorem dX3_addMove_0 : decode M_X3_addMove.2.1 0 = .ok (.iload_n 1, 1) := by decide +kernel
theorem dX3_addMove_1 : decode M_X3_addMove.2.1 1 = .ok (.bipush 64, 2) := by decide +kernel
theorem dX3_addMove_3 : decode M_X3_addMove.2.1 3 = .ok (.if_icmp .ge 21, 3) := by decide +kernel
theorem dX3_addMove_6 : decode M_X3_addMove.2.1 6 = .ok (.aload_n 0, 1) := by decide +kernel
theorem dX3_addMove_7 : decode M_X3_addMove.2.1 7 = .ok (.getfield 15, 3) := by decide +kernel
theorem dX3_addMove_10 : decode M_X3_addMove.2.1 10 = .ok (.aload_n 0, 1) := by decide +kernel
theorem dX3_addMove_11 : decode M_X3_addMove.2.1 11 = .ok (.getfield 35, 3) := by decide +kernel
theorem dX3_addMove_14 : decode M_X3_addMove.2.1 14 = .ok (.dup2, 1) := by decide +kernel
theorem dX3_addMove_15 : decode M_X3_addMove.2.1 15 = .ok (.laload, 1) := by decide +kernel
theorem dX3_addMove_16 : decode M_X3_addMove.2.1 16 = .ok (.lconst 1, 1) := by decide +kernel
theorem dX3_addMove_17 : decode M_X3_addMove.2.1 17 = .ok (.iload_n 1, 1) := by decide +kernel
theorem dX3_addMove_18 : decode M_X3_addMove.2.1 18 = .ok (.lshl, 1) := by decide +kernel
theorem dX3_addMove_19 : decode M_X3_addMove.2.1 19 = .ok (.lor, 1) := by decide +kernel
theorem dX3_addMove_20 : decode M_X3_addMove.2.1 20 = .ok (.lastore, 1) := by decide +kernel
theorem dX3_addMove_21 : decode M_X3_addMove.2.1 21 = .ok (.goto 21, 3) := by decide +kernel
theorem dX3_addMove_24 : decode M_X3_addMove.2.1 24 = .ok (.aload_n 0, 1) := by decide +kernel
theorem dX3_addMove_25 : decode M_X3_addMove.2.1 25 = .ok (.getfield 18, 3) := by decide +kernel
theorem dX3_addMove_28 : decode M_X3_addMove.2.1 28 = .ok (.aload_n 0, 1) := by decide +kernel
theorem dX3_addMove_29 : decode M_X3_addMove.2.1 29 = .ok (.getfield 35, 3) := by decide +kernel
theorem dX3_addMove_32 : decode M_X3_addMove.2.1 32 = .ok (.dup2, 1) := by decide +kernel
theorem dX3_addMove_33 : decode M_X3_addMove.2.1 33 = .ok (.laload, 1) := by decide +kernel
theorem dX3_addMove_34 : decode M_X3_addMove.2.1 34 = .ok (.lconst 1, 1) := by decide +kernel
theorem dX3_addMove_35 : decode M_X3_addMove.2.1 35 = .ok (.iload_n 1, 1) := by decide +kernel
theorem dX3_addMove_36 : decode M_X3_addMove.2.1 36 = .ok (.bipush 64, 2) := by decide +kernel
theorem dX3_addMove_38 : decode M_X3_addMove.2.1 38 = .ok (.isub, 1) := by decide +kernel
theorem dX3_addMove_39 : decode M_X3_addMove.2.1 39 = .ok (.lshl, 1) := by decide +kernel
theorem dX3_addMove_40 : decode M_X3_addMove.2.1 40 = .ok (.lor, 1) := by decide +kernel
theorem dX3_addMove_41 : decode M_X3_addMove.2.1 41 = .ok (.lastore, 1) := by decide +kernel
theorem dX3_addMove_42 : decode M_X3_addMove.2.1 42 = .ok (.return_, 1) := by decide +kernel
theorem w_X3_addMove {X : ZX} {d n : Nat} {P : ZSto → Prop} {x1 : Int} {σ : ZSto} (hn : 73 ≤ n)  (hx1 : R32 x1)
    (h : (64 ≤ x1 → (0 ≤ gI σ 61 8 ∧ gI σ 61 8 < 601) ∧ P (sL σ 64 ((gI σ 61 8).toNat) ((gL σ 64 ((gI σ 61 8).toNat)) ||| (lshlF ((1 : Int64)) (x1 - 64))))) ∧ (¬ (64 ≤ x1) → (0 ≤ gI σ 61 8 ∧ gI σ 61 8 < 601) ∧ P (sL σ 63 ((gI σ 61 8).toNat) ((gL σ 63 ((gI σ 61 8).toNat)) ||| (lshlF ((1 : Int64)) x1))))) :
    ZkV X M_X3_addMove (d + 1) n [.ref (zB X + 61), iV x1] σ P := by
  refine zk_of (ls := [some (.ref (zB X + 61)), some (iV x1)]) pl_RX3 (Nat.le_of_ble_eq_true rfl) rfl (fun k0 => ?_)
  unfold Zn
  refine r_iload_n dX3_addMove_0 rfl ?_
  refine r_bipush dX3_addMove_1 rfl ?_
  refine r_icmp_ge (t := 24) dX3_addMove_3 rfl hx1 (r32c rfl) (fun c1 => ?_) (fun c2 => ?_)
  · have h3 := h.1 c1
    refine r_aload_n dX3_addMove_24 rfl ?_
    refine r_getP (a := 64) dX3_addMove_25 kf_RX3_18 (zlt hn rfl) sh_61 rfl (k0.1 _ _ _ (zlt hn rfl) p_61_3) ?_
    refine r_aload_n dX3_addMove_28 rfl ?_
    refine r_getI dX3_addMove_29 kf_RX3_35 (zlt hn rfl) sh_61 (Or.inl rfl) rfl ?_
    refine r_dup2 dX3_addMove_32 rfl rfl ?_
    obtain ⟨h4, h5⟩ := h3
    refine r_laloadE dX3_addMove_33 (zlt hn rfl) sh_64 h4.1 h4.2 rfl ?_
    refine r_lconst (v := 1) dX3_addMove_34 rfl ?_
    refine r_iload_n dX3_addMove_35 rfl ?_
    refine r_bipush dX3_addMove_36 rfl ?_
    refine r_isub dX3_addMove_38 ?_
    refine r_lshl dX3_addMove_39 ?_
    refine r_lor dX3_addMove_40 ?_
    refine r_lastore dX3_addMove_41 (zlt hn rfl) sh_64 h4.1 h4.2 ?_
    have k6 := zok_l (a := 64) (i := (gI σ 61 8).toNat) (x := (gL σ 64 ((gI σ 61 8).toNat)) ||| (lshlF ((1 : Int64)) (x1 - 64))) k0
    exact r_return dX3_addMove_42 rfl ⟨k6, rfl, h5⟩
  · have h7 := h.2 c2
    refine r_aload_n dX3_addMove_6 rfl ?_
    refine r_getP (a := 63) dX3_addMove_7 kf_RX3_15 (zlt hn rfl) sh_61 rfl (k0.1 _ _ _ (zlt hn rfl) p_61_2) ?_
    refine r_aload_n dX3_addMove_10 rfl ?_
    refine r_getI dX3_addMove_11 kf_RX3_35 (zlt hn rfl) sh_61 (Or.inl rfl) rfl ?_
    refine r_dup2 dX3_addMove_14 rfl rfl ?_
    obtain ⟨h8, h9⟩ := h7
    refine r_laloadE dX3_addMove_15 (zlt hn rfl) sh_63 h8.1 h8.2 rfl ?_
    refine r_lconst (v := 1) dX3_addMove_16 rfl ?_
    refine r_iload_n dX3_addMove_17 rfl ?_
    refine r_lshl dX3_addMove_18 ?_
    refine r_lor dX3_addMove_19 ?_
    refine r_lastore dX3_addMove_20 (zlt hn rfl) sh_63 h8.1 h8.2 ?_
    have k10 := zok_l (a := 63) (i := (gI σ 61 8).toNat) (x := (gL σ 63 ((gI σ 61 8).toNat)) ||| (lshlF ((1 : Int64)) x1)) k0
    refine r_goto (t := 42) dX3_addMove_21 rfl ?_
    exact r_return dX3_addMove_42 rfl ⟨k10, rfl, h9⟩
/-! StoneRoom$Ladder.isMove -/
theorem dX3_isMove_0 : decode M_X3_isMove.2.1 0 = .ok (.iload_n 1, 1) := by decide +kernel
theorem dX3_isMove_1 : decode M_X3_isMove.2.1 1 = .ok (.bipush 64, 2) := by decide +kernel
theorem dX3_isMove_3 : decode M_X3_isMove.2.1 3 = .ok (.if_icmp .ge 17, 3) := by decide +kernel
theorem dX3_isMove_6 : decode M_X3_isMove.2.1 6 = .ok (.aload_n 0, 1) := by decide +kernel
theorem dX3_isMove_7 : decode M_X3_isMove.2.1 7 = .ok (.getfield 15, 3) := by decide +kernel
theorem dX3_isMove_10 : decode M_X3_isMove.2.1 10 = .ok (.aload_n 0, 1) := by decide +kernel
theorem dX3_isMove_11 : decode M_X3_isMove.2.1 11 = .ok (.getfield 35, 3) := by decide +kernel
theorem dX3_isMove_14 : decode M_X3_isMove.2.1 14 = .ok (.laload, 1) := by decide +kernel
theorem dX3_isMove_15 : decode M_X3_isMove.2.1 15 = .ok (.iload_n 1, 1) := by decide +kernel
theorem dX3_isMove_16 : decode M_X3_isMove.2.1 16 = .ok (.lushr, 1) := by decide +kernel
theorem dX3_isMove_17 : decode M_X3_isMove.2.1 17 = .ok (.goto 17, 3) := by decide +kernel
theorem dX3_isMove_20 : decode M_X3_isMove.2.1 20 = .ok (.aload_n 0, 1) := by decide +kernel
theorem dX3_isMove_21 : decode M_X3_isMove.2.1 21 = .ok (.getfield 18, 3) := by decide +kernel
theorem dX3_isMove_24 : decode M_X3_isMove.2.1 24 = .ok (.aload_n 0, 1) := by decide +kernel
theorem dX3_isMove_25 : decode M_X3_isMove.2.1 25 = .ok (.getfield 35, 3) := by decide +kernel
theorem dX3_isMove_28 : decode M_X3_isMove.2.1 28 = .ok (.laload, 1) := by decide +kernel
theorem dX3_isMove_29 : decode M_X3_isMove.2.1 29 = .ok (.iload_n 1, 1) := by decide +kernel
theorem dX3_isMove_30 : decode M_X3_isMove.2.1 30 = .ok (.bipush 64, 2) := by decide +kernel
theorem dX3_isMove_32 : decode M_X3_isMove.2.1 32 = .ok (.isub, 1) := by decide +kernel
theorem dX3_isMove_33 : decode M_X3_isMove.2.1 33 = .ok (.lushr, 1) := by decide +kernel
theorem dX3_isMove_34 : decode M_X3_isMove.2.1 34 = .ok (.lstore_n 2, 1) := by decide +kernel
theorem dX3_isMove_35 : decode M_X3_isMove.2.1 35 = .ok (.lload_n 2, 1) := by decide +kernel
theorem dX3_isMove_36 : decode M_X3_isMove.2.1 36 = .ok (.lconst 1, 1) := by decide +kernel
theorem dX3_isMove_37 : decode M_X3_isMove.2.1 37 = .ok (.land, 1) := by decide +kernel
theorem dX3_isMove_38 : decode M_X3_isMove.2.1 38 = .ok (.lconst 0, 1) := by decide +kernel
theorem dX3_isMove_39 : decode M_X3_isMove.2.1 39 = .ok (.lcmp, 1) := by decide +kernel
theorem dX3_isMove_40 : decode M_X3_isMove.2.1 40 = .ok (.ifCond .eq 7, 3) := by decide +kernel
theorem dX3_isMove_43 : decode M_X3_isMove.2.1 43 = .ok (.iconst 1, 1) := by decide +kernel
theorem dX3_isMove_44 : decode M_X3_isMove.2.1 44 = .ok (.goto 4, 3) := by decide +kernel
theorem dX3_isMove_47 : decode M_X3_isMove.2.1 47 = .ok (.iconst 0, 1) := by decide +kernel
theorem dX3_isMove_48 : decode M_X3_isMove.2.1 48 = .ok (.ireturn, 1) := by decide +kernel
theorem w_X3_isMove {X : ZX} {d n : Nat} {P : Int → ZSto → Prop} {x1 : Int} {σ : ZSto} (hn : 73 ≤ n)  (hx1 : R32 x1)
    (h : (64 ≤ x1 → (0 ≤ gI σ 61 8 ∧ gI σ 61 8 < 601) ∧ (lcmpF ((lushrF (gL σ 64 ((gI σ 61 8).toNat)) (x1 - 64)) &&& ((1 : Int64))) ((0 : Int64)) = 0 → P 0 σ) ∧ (¬ (lcmpF ((lushrF (gL σ 64 ((gI σ 61 8).toNat)) (x1 - 64)) &&& ((1 : Int64))) ((0 : Int64)) = 0) → P 1 σ)) ∧ (¬ (64 ≤ x1) → (0 ≤ gI σ 61 8 ∧ gI σ 61 8 < 601) ∧ (lcmpF ((lushrF (gL σ 63 ((gI σ 61 8).toNat)) x1) &&& ((1 : Int64))) ((0 : Int64)) = 0 → P 0 σ) ∧ (¬ (lcmpF ((lushrF (gL σ 63 ((gI σ 61 8).toNat)) x1) &&& ((1 : Int64))) ((0 : Int64)) = 0) → P 1 σ))) :
    ZkZ X M_X3_isMove (d + 1) n [.ref (zB X + 61), iV x1] σ P := by
  refine zk_of (ls := [some (.ref (zB X + 61)), some (iV x1), none, none]) pl_RX3 (Nat.le_of_ble_eq_true rfl) rfl (fun k0 => ?_)
  unfold Zn
  refine r_iload_n dX3_isMove_0 rfl ?_
  refine r_bipush dX3_isMove_1 rfl ?_
  refine r_icmp_ge (t := 20) dX3_isMove_3 rfl hx1 (r32c rfl) (fun c1 => ?_) (fun c2 => ?_)
  · have h3 := h.1 c1
    refine r_aload_n dX3_isMove_20 rfl ?_
    refine r_getP (a := 64) dX3_isMove_21 kf_RX3_18 (zlt hn rfl) sh_61 rfl (k0.1 _ _ _ (zlt hn rfl) p_61_3) ?_
    refine r_aload_n dX3_isMove_24 rfl ?_
    refine r_getI dX3_isMove_25 kf_RX3_35 (zlt hn rfl) sh_61 (Or.inl rfl) rfl ?_
    obtain ⟨h4, h5⟩ := h3
    refine r_laloadE dX3_isMove_28 (zlt hn rfl) sh_64 h4.1 h4.2 rfl ?_
    refine r_iload_n dX3_isMove_29 rfl ?_
    refine r_bipush dX3_isMove_30 rfl ?_
    refine r_isub dX3_isMove_32 ?_
    refine r_lushr dX3_isMove_33 ?_
    refine r_lstore_n dX3_isMove_34 rfl rfl ?_
    refine r_lload_n dX3_isMove_35 rfl ?_
    refine r_lconst (v := 1) dX3_isMove_36 rfl ?_
    refine r_land dX3_isMove_37 ?_
    refine r_lconst (v := 0) dX3_isMove_38 rfl ?_
    refine r_lcmp dX3_isMove_39 ?_
    refine r_if_eq (t := 47) dX3_isMove_40 rfl (r32_lcmp _ _)  (fun c6 => ?_) (fun c7 => ?_)
    · have h8 := h5.1 c6
      refine r_iconst dX3_isMove_47 ?_
      exact r_zreturn dX3_isMove_48 rfl (Or.inl rfl) ⟨k0, _, rfl, (Or.inl rfl), h8⟩
    · have h9 := h5.2 c7
      refine r_iconst dX3_isMove_43 ?_
      refine r_goto (t := 48) dX3_isMove_44 rfl ?_
      exact r_zreturn dX3_isMove_48 rfl (Or.inr rfl) ⟨k0, _, rfl, (Or.inr rfl), h9⟩
  · have h10 := h.2 c2
    refine r_aload_n dX3_isMove_6 rfl ?_
    refine r_getP (a := 63) dX3_isMove_7 kf_RX3_15 (zlt hn rfl) sh_61 rfl (k0.1 _ _ _ (zlt hn rfl) p_61_2) ?_
    refine r_aload_n dX3_isMove_10 rfl ?_
    refine r_getI dX3_isMove_11 kf_RX3_35 (zlt hn rfl) sh_61 (Or.inl rfl) rfl ?_
    obtain ⟨h11, h12⟩ := h10
    refine r_laloadE dX3_isMove_14 (zlt hn rfl) sh_63 h11.1 h11.2 rfl ?_
    refine r_iload_n dX3_isMove_15 rfl ?_
    refine r_lushr dX3_isMove_16 ?_
    refine r_goto (t := 34) dX3_isMove_17 rfl ?_
    refine r_lstore_n dX3_isMove_34 rfl rfl ?_
    refine r_lload_n dX3_isMove_35 rfl ?_
    refine r_lconst (v := 1) dX3_isMove_36 rfl ?_
    refine r_land dX3_isMove_37 ?_
    refine r_lconst (v := 0) dX3_isMove_38 rfl ?_
    refine r_lcmp dX3_isMove_39 ?_
    refine r_if_eq (t := 47) dX3_isMove_40 rfl (r32_lcmp _ _)  (fun c13 => ?_) (fun c14 => ?_)
    · have h15 := h12.1 c13
      refine r_iconst dX3_isMove_47 ?_
      exact r_zreturn dX3_isMove_48 rfl (Or.inl rfl) ⟨k0, _, rfl, (Or.inl rfl), h15⟩
    · have h16 := h12.2 c14
      refine r_iconst dX3_isMove_43 ?_
      refine r_goto (t := 48) dX3_isMove_44 rfl ?_
      exact r_zreturn dX3_isMove_48 rfl (Or.inr rfl) ⟨k0, _, rfl, (Or.inr rfl), h16⟩
/-! StoneRoom$Ladder.nextMove -/
theorem dX3_nextMove_0 : decode M_X3_nextMove.2.1 0 = .ok (.aload_n 0, 1) := by decide +kernel
theorem dX3_nextMove_1 : decode M_X3_nextMove.2.1 1 = .ok (.getfield 25, 3) := by decide +kernel
theorem dX3_nextMove_4 : decode M_X3_nextMove.2.1 4 = .ok (.aload_n 0, 1) := by decide +kernel
theorem dX3_nextMove_5 : decode M_X3_nextMove.2.1 5 = .ok (.getfield 35, 3) := by decide +kernel
theorem dX3_nextMove_8 : decode M_X3_nextMove.2.1 8 = .ok (.iaload, 1) := by decide +kernel
theorem dX3_nextMove_9 : decode M_X3_nextMove.2.1 9 = .ok (.iconst 1, 1) := by decide +kernel
theorem dX3_nextMove_10 : decode M_X3_nextMove.2.1 10 = .ok (.iadd, 1) := by decide +kernel
theorem dX3_nextMove_11 : decode M_X3_nextMove.2.1 11 = .ok (.istore_n 1, 1) := by decide +kernel
theorem dX3_nextMove_12 : decode M_X3_nextMove.2.1 12 = .ok (.iload_n 1, 1) := by decide +kernel
theorem dX3_nextMove_13 : decode M_X3_nextMove.2.1 13 = .ok (.aload_n 0, 1) := by decide +kernel
theorem dX3_nextMove_14 : decode M_X3_nextMove.2.1 14 = .ok (.getfield 44, 3) := by decide +kernel
theorem dX3_nextMove_17 : decode M_X3_nextMove.2.1 17 = .ok (.getfield 115, 3) := by decide +kernel
theorem dX3_nextMove_20 : decode M_X3_nextMove.2.1 20 = .ok (.if_icmp .ge 29, 3) := by decide +kernel
theorem dX3_nextMove_23 : decode M_X3_nextMove.2.1 23 = .ok (.aload_n 0, 1) := by decide +kernel
theorem dX3_nextMove_24 : decode M_X3_nextMove.2.1 24 = .ok (.iload_n 1, 1) := by decide +kernel
theorem dX3_nextMove_25 : decode M_X3_nextMove.2.1 25 = .ok (.invokevirtual 133, 3) := by decide +kernel
theorem dX3_nextMove_28 : decode M_X3_nextMove.2.1 28 = .ok (.ifCond .eq 15, 3) := by decide +kernel
theorem dX3_nextMove_31 : decode M_X3_nextMove.2.1 31 = .ok (.aload_n 0, 1) := by decide +kernel
theorem dX3_nextMove_32 : decode M_X3_nextMove.2.1 32 = .ok (.getfield 25, 3) := by decide +kernel
theorem dX3_nextMove_35 : decode M_X3_nextMove.2.1 35 = .ok (.aload_n 0, 1) := by decide +kernel
theorem dX3_nextMove_36 : decode M_X3_nextMove.2.1 36 = .ok (.getfield 35, 3) := by decide +kernel
theorem dX3_nextMove_39 : decode M_X3_nextMove.2.1 39 = .ok (.iload_n 1, 1) := by decide +kernel
theorem dX3_nextMove_40 : decode M_X3_nextMove.2.1 40 = .ok (.iastore, 1) := by decide +kernel
theorem dX3_nextMove_41 : decode M_X3_nextMove.2.1 41 = .ok (.iload_n 1, 1) := by decide +kernel
theorem dX3_nextMove_42 : decode M_X3_nextMove.2.1 42 = .ok (.ireturn, 1) := by decide +kernel
theorem dX3_nextMove_43 : decode M_X3_nextMove.2.1 43 = .ok (.iinc 1 1, 3) := by decide +kernel
theorem dX3_nextMove_46 : decode M_X3_nextMove.2.1 46 = .ok (.goto (-34), 3) := by decide +kernel
theorem dX3_nextMove_49 : decode M_X3_nextMove.2.1 49 = .ok (.aload_n 0, 1) := by decide +kernel
theorem dX3_nextMove_50 : decode M_X3_nextMove.2.1 50 = .ok (.getfield 25, 3) := by decide +kernel
theorem dX3_nextMove_53 : decode M_X3_nextMove.2.1 53 = .ok (.aload_n 0, 1) := by decide +kernel
theorem dX3_nextMove_54 : decode M_X3_nextMove.2.1 54 = .ok (.getfield 35, 3) := by decide +kernel
theorem dX3_nextMove_57 : decode M_X3_nextMove.2.1 57 = .ok (.aload_n 0, 1) := by decide +kernel
theorem dX3_nextMove_58 : decode M_X3_nextMove.2.1 58 = .ok (.getfield 44, 3) := by decide +kernel
theorem dX3_nextMove_61 : decode M_X3_nextMove.2.1 61 = .ok (.getfield 115, 3) := by decide +kernel
theorem dX3_nextMove_64 : decode M_X3_nextMove.2.1 64 = .ok (.iastore, 1) := by decide +kernel
theorem dX3_nextMove_65 : decode M_X3_nextMove.2.1 65 = .ok (.aload_n 0, 1) := by decide +kernel
theorem dX3_nextMove_66 : decode M_X3_nextMove.2.1 66 = .ok (.getfield 21, 3) := by decide +kernel
theorem dX3_nextMove_69 : decode M_X3_nextMove.2.1 69 = .ok (.aload_n 0, 1) := by decide +kernel
theorem dX3_nextMove_70 : decode M_X3_nextMove.2.1 70 = .ok (.getfield 35, 3) := by decide +kernel
theorem dX3_nextMove_73 : decode M_X3_nextMove.2.1 73 = .ok (.iaload, 1) := by decide +kernel
theorem dX3_nextMove_74 : decode M_X3_nextMove.2.1 74 = .ok (.istore_n 1, 1) := by decide +kernel
theorem dX3_nextMove_75 : decode M_X3_nextMove.2.1 75 = .ok (.aload_n 0, 1) := by decide +kernel
theorem dX3_nextMove_76 : decode M_X3_nextMove.2.1 76 = .ok (.getfield 21, 3) := by decide +kernel
theorem dX3_nextMove_79 : decode M_X3_nextMove.2.1 79 = .ok (.aload_n 0, 1) := by decide +kernel
theorem dX3_nextMove_80 : decode M_X3_nextMove.2.1 80 = .ok (.getfield 35, 3) := by decide +kernel
theorem dX3_nextMove_83 : decode M_X3_nextMove.2.1 83 = .ok (.iconst (-1), 1) := by decide +kernel
theorem dX3_nextMove_84 : decode M_X3_nextMove.2.1 84 = .ok (.iastore, 1) := by decide +kernel
theorem dX3_nextMove_85 : decode M_X3_nextMove.2.1 85 = .ok (.iload_n 1, 1) := by decide +kernel
theorem dX3_nextMove_86 : decode M_X3_nextMove.2.1 86 = .ok (.ireturn, 1) := by decide +kernel
def L_X3_nextMove_12 (X : ZX) (d n : Nat) (P : Option Value → ZSto → Prop) (x1 : Int) (σ : ZSto) : Prop := R32 x1 → ZOk n σ → Zn X M_X3_nextMove d n P 12 [some (.ref (zB X + 61)), some (iV x1)] [] σ
theorem w_X3_nextMove {X : ZX} {d n : Nat} {P : Int → ZSto → Prop}  {σ : ZSto} (hn : 73 ≤ n)  
    (h : (0 ≤ gI σ 61 8 ∧ gI σ 61 8 < 601) ∧ (∀ y3 : Int, y3 = (gI σ 66 ((gI σ 61 8).toNat)) + 1 → R32 y3 ∧ L_X3_nextMove_12 X d n (zpI P) y3 σ)) :
    ZkI X M_X3_nextMove (d + 1) n [.ref (zB X + 61)] σ P := by
  refine zk_of (ls := [some (.ref (zB X + 61)), none]) pl_RX3 (Nat.le_of_ble_eq_true rfl) rfl (fun k0 => ?_)
  unfold Zn
  refine r_aload_n dX3_nextMove_0 rfl ?_
  refine r_getP (a := 66) dX3_nextMove_1 kf_RX3_25 (zlt hn rfl) sh_61 rfl (k0.1 _ _ _ (zlt hn rfl) p_61_5) ?_
  refine r_aload_n dX3_nextMove_4 rfl ?_
  refine r_getI dX3_nextMove_5 kf_RX3_35 (zlt hn rfl) sh_61 (Or.inl rfl) rfl ?_
  obtain ⟨h1, h2⟩ := h
  refine r_ialoadE dX3_nextMove_8 (zlt hn rfl) sh_66 h1.1 h1.2 rfl ?_
  refine r_iconst dX3_nextMove_9 ?_
  refine r_iadd dX3_nextMove_10 ?_
  refine r_name (fun y3 e4 => ?_)
  have h5 := h2 y3 e4
  refine r_istore_n dX3_nextMove_11 rfl rfl ?_
  obtain ⟨h6, h7⟩ := h5
  exact r_mask [true, true] rfl (h7 h6 k0)
theorem b_X3_nextMove_12 {X : ZX} {d n : Nat} {P : Int → ZSto → Prop} {x1 : Int} {σ : ZSto} (hn : 73 ≤ n) 
    (h : (gI σ 41 8 ≤ x1 → (0 ≤ gI σ 61 8 ∧ gI σ 61 8 < 601) ∧ (∀ y7 : Int, y7 = gI σ 65 ((gI σ 61 8).toNat) → P y7 (sI (sI σ 66 ((gI σ 61 8).toNat) (gI σ 41 8)) 65 ((gI σ 61 8).toNat) ((-1))))) ∧ (¬ (gI σ 41 8 ≤ x1) → ZkZ X M_X3_isMove d n [.ref (zB X + 61), iV x1] σ (fun v12 σ13 => (v12 = 0 → R32 (x1 + 1) ∧ L_X3_nextMove_12 X d n (zpI P) (x1 + 1) σ13) ∧ (¬ (v12 = 0) → (0 ≤ gI σ13 61 8 ∧ gI σ13 61 8 < 601) ∧ P x1 (sI σ13 66 ((gI σ13 61 8).toNat) x1))))) :
    L_X3_nextMove_12 X d n (zpI P) x1 σ := by
  intro hx1 k0
  unfold Zn
  refine r_iload_n dX3_nextMove_12 rfl ?_
  refine r_aload_n dX3_nextMove_13 rfl ?_
  refine r_getP (a := 41) dX3_nextMove_14 kf_RX3_44 (zlt hn rfl) sh_61 rfl (k0.1 _ _ _ (zlt hn rfl) p_61_0) ?_
  refine r_getI dX3_nextMove_17 kf_RX3_115 (zlt hn rfl) sh_41 (Or.inl rfl) rfl ?_
  refine r_icmp_ge (t := 49) dX3_nextMove_20 rfl hx1 (k0.2.1 _ _) (fun c1 => ?_) (fun c2 => ?_)
  · have h3 := h.1 c1
    refine r_aload_n dX3_nextMove_49 rfl ?_
    refine r_getP (a := 66) dX3_nextMove_50 kf_RX3_25 (zlt hn rfl) sh_61 rfl (k0.1 _ _ _ (zlt hn rfl) p_61_5) ?_
    refine r_aload_n dX3_nextMove_53 rfl ?_
    refine r_getI dX3_nextMove_54 kf_RX3_35 (zlt hn rfl) sh_61 (Or.inl rfl) rfl ?_
    refine r_aload_n dX3_nextMove_57 rfl ?_
    refine r_getP (a := 41) dX3_nextMove_58 kf_RX3_44 (zlt hn rfl) sh_61 rfl (k0.1 _ _ _ (zlt hn rfl) p_61_0) ?_
    refine r_getI dX3_nextMove_61 kf_RX3_115 (zlt hn rfl) sh_41 (Or.inl rfl) rfl ?_
    obtain ⟨h4, h5⟩ := h3
    refine r_iastore dX3_nextMove_64 (zlt hn rfl) sh_66 h4.1 h4.2 ?_
    have k6 := zok_i (i := (gI σ 61 8).toNat) (x := gI σ 41 8) k0 sh_66 (k0.2.1 _ _)
    refine r_aload_n dX3_nextMove_65 rfl ?_
    refine r_getP (a := 65) dX3_nextMove_66 kf_RX3_21 (zlt hn rfl) sh_61 rfl (k6.1 _ _ _ (zlt hn rfl) p_61_4) ?_
    refine r_aload_n dX3_nextMove_69 rfl ?_
    refine r_getI dX3_nextMove_70 kf_RX3_35 (zlt hn rfl) sh_61 (Or.inl rfl) (gI_c (by decide)) ?_
    refine r_ialoadE dX3_nextMove_73 (zlt hn rfl) sh_65 h4.1 h4.2 (gI_c (by decide)) ?_
    refine r_name (fun y7 e8 => ?_)
    have h9 := h5 y7 e8
    refine r_istore_n dX3_nextMove_74 rfl rfl ?_
    refine r_aload_n dX3_nextMove_75 rfl ?_
    refine r_getP (a := 65) dX3_nextMove_76 kf_RX3_21 (zlt hn rfl) sh_61 rfl (k6.1 _ _ _ (zlt hn rfl) p_61_4) ?_
    refine r_aload_n dX3_nextMove_79 rfl ?_
    refine r_getI dX3_nextMove_80 kf_RX3_35 (zlt hn rfl) sh_61 (Or.inl rfl) (gI_c (by decide)) ?_
    refine r_iconst dX3_nextMove_83 ?_
    refine r_iastore dX3_nextMove_84 (zlt hn rfl) sh_65 h4.1 h4.2 ?_
    have k10 := zok_i (i := (gI σ 61 8).toNat) (x := (-1)) k6 sh_65 (r32c rfl)
    refine r_iload_n dX3_nextMove_85 rfl ?_
    exact r_ireturn dX3_nextMove_86 rfl ⟨k10, _, rfl, (by rw [e8]; exact (k0.2.1 _ _)), h9⟩
  · have h11 := h.2 c2
    refine r_aload_n dX3_nextMove_23 rfl ?_
    refine r_iload_n dX3_nextMove_24 rfl ?_
    refine n_callV (N := M_X3_isMove) (As := [iV x1]) (st := []) dX3_nextMove_25 mk_X3_isMove km_RX3_133 kd_X3_isMove rfl (zlt hn rfl) sh_61 (q := (RX3, TX3, 11)) rfl rfl (zFits_rm d n n n (Nat.le_refl n)) (Nat.le_of_ble_eq_true rfl) rfl k0 h11 ?_
    rintro _ σ13 k14 ⟨v12, rfl, h15, h16⟩
    change Zm _ _ _ _ _ _ 28 _ [iV v12] _
    refine r_if_eq (t := 43) dX3_nextMove_28 rfl (r32_z h15)  (fun c17 => ?_) (fun c18 => ?_)
    · have h19 := h16.1 c17
      refine r_iinc dX3_nextMove_43 rfl rfl rfl ?_
      refine r_goto (t := 12) dX3_nextMove_46 rfl ?_
      obtain ⟨h20, h21⟩ := h19
      exact r_mask [true, true] rfl (h21 h20 k14)
    · have h22 := h16.2 c18
      refine r_aload_n dX3_nextMove_31 rfl ?_
      refine r_getP (a := 66) dX3_nextMove_32 kf_RX3_25 (zlt hn rfl) sh_61 rfl (k14.1 _ _ _ (zlt hn rfl) p_61_5) ?_
      refine r_aload_n dX3_nextMove_35 rfl ?_
      refine r_getI dX3_nextMove_36 kf_RX3_35 (zlt hn rfl) sh_61 (Or.inl rfl) rfl ?_
      refine r_iload_n dX3_nextMove_39 rfl ?_
      obtain ⟨h23, h24⟩ := h22
      refine r_iastore dX3_nextMove_40 (zlt hn rfl) sh_66 h23.1 h23.2 ?_
      have k25 := zok_i (i := (gI σ13 61 8).toNat) (x := x1) k14 sh_66 hx1
      refine r_iload_n dX3_nextMove_41 rfl ?_
      exact r_ireturn dX3_nextMove_42 rfl ⟨k25, _, rfl, hx1, h24⟩
