/-! StoneRoom$Board.shape -/
theorem dX0_shape_0 : decode M_X0_shape.2.1 0 = .ok (.aload_n 0, 1) := by decide +kernel
theorem dX0_shape_1 : decode M_X0_shape.2.1 1 = .ok (.getfield 9, 3) := by decide +kernel
theorem dX0_shape_4 : decode M_X0_shape.2.1 4 = .ok (.iconst 0, 1) := by decide +kernel
theorem dX0_shape_5 : decode M_X0_shape.2.1 5 = .ok (.invokestatic 54, 3) := by decide +kernel
theorem dX0_shape_8 : decode M_X0_shape.2.1 8 = .ok (.iload_n 1, 1) := by decide +kernel
theorem dX0_shape_9 : decode M_X0_shape.2.1 9 = .ok (.aload_n 0, 1) := by decide +kernel
theorem dX0_shape_10 : decode M_X0_shape.2.1 10 = .ok (.getfield 35, 3) := by decide +kernel
theorem dX0_shape_13 : decode M_X0_shape.2.1 13 = .ok (.if_icmp .eq 10, 3) := by decide +kernel
theorem dX0_shape_16 : decode M_X0_shape.2.1 16 = .ok (.iload_n 1, 1) := by decide +kernel
theorem dX0_shape_17 : decode M_X0_shape.2.1 17 = .ok (.invokestatic 60, 3) := by decide +kernel
theorem dX0_shape_20 : decode M_X0_shape.2.1 20 = .ok (.ifCond .ne 4, 3) := by decide +kernel
theorem dX0_shape_23 : decode M_X0_shape.2.1 23 = .ok (.return_, 1) := by decide +kernel
theorem dX0_shape_24 : decode M_X0_shape.2.1 24 = .ok (.aload_n 0, 1) := by decide +kernel
theorem dX0_shape_25 : decode M_X0_shape.2.1 25 = .ok (.iload_n 1, 1) := by decide +kernel
theorem dX0_shape_26 : decode M_X0_shape.2.1 26 = .ok (.putfield 35, 3) := by decide +kernel
theorem dX0_shape_29 : decode M_X0_shape.2.1 29 = .ok (.aload_n 0, 1) := by decide +kernel
theorem dX0_shape_30 : decode M_X0_shape.2.1 30 = .ok (.aload_n 0, 1) := by decide +kernel
theorem dX0_shape_31 : decode M_X0_shape.2.1 31 = .ok (.getfield 35, 3) := by decide +kernel
theorem dX0_shape_34 : decode M_X0_shape.2.1 34 = .ok (.aload_n 0, 1) := by decide +kernel
theorem dX0_shape_35 : decode M_X0_shape.2.1 35 = .ok (.getfield 35, 3) := by decide +kernel
theorem dX0_shape_38 : decode M_X0_shape.2.1 38 = .ok (.imul, 1) := by decide +kernel
theorem dX0_shape_39 : decode M_X0_shape.2.1 39 = .ok (.putfield 39, 3) := by decide +kernel
theorem dX0_shape_42 : decode M_X0_shape.2.1 42 = .ok (.iconst 0, 1) := by decide +kernel
theorem dX0_shape_43 : decode M_X0_shape.2.1 43 = .ok (.istore_n 2, 1) := by decide +kernel
theorem dX0_shape_44 : decode M_X0_shape.2.1 44 = .ok (.iload_n 2, 1) := by decide +kernel
theorem dX0_shape_45 : decode M_X0_shape.2.1 45 = .ok (.aload_n 0, 1) := by decide +kernel
theorem dX0_shape_46 : decode M_X0_shape.2.1 46 = .ok (.getfield 35, 3) := by decide +kernel
theorem dX0_shape_49 : decode M_X0_shape.2.1 49 = .ok (.if_icmp .ge 31, 3) := by decide +kernel
theorem dX0_shape_52 : decode M_X0_shape.2.1 52 = .ok (.iconst 0, 1) := by decide +kernel
theorem dX0_shape_53 : decode M_X0_shape.2.1 53 = .ok (.istore_n 3, 1) := by decide +kernel
theorem dX0_shape_54 : decode M_X0_shape.2.1 54 = .ok (.iload_n 3, 1) := by decide +kernel
theorem dX0_shape_55 : decode M_X0_shape.2.1 55 = .ok (.aload_n 0, 1) := by decide +kernel
theorem dX0_shape_56 : decode M_X0_shape.2.1 56 = .ok (.getfield 35, 3) := by decide +kernel
theorem dX0_shape_59 : decode M_X0_shape.2.1 59 = .ok (.if_icmp .ge 15, 3) := by decide +kernel
theorem dX0_shape_62 : decode M_X0_shape.2.1 62 = .ok (.aload_n 0, 1) := by decide +kernel
theorem dX0_shape_63 : decode M_X0_shape.2.1 63 = .ok (.iload_n 2, 1) := by decide +kernel
theorem dX0_shape_64 : decode M_X0_shape.2.1 64 = .ok (.iload_n 3, 1) := by decide +kernel
theorem dX0_shape_65 : decode M_X0_shape.2.1 65 = .ok (.invokevirtual 64, 3) := by decide +kernel
theorem dX0_shape_68 : decode M_X0_shape.2.1 68 = .ok (.iinc 3 1, 3) := by decide +kernel
theorem dX0_shape_71 : decode M_X0_shape.2.1 71 = .ok (.goto (-17), 3) := by decide +kernel
theorem dX0_shape_74 : decode M_X0_shape.2.1 74 = .ok (.iinc 2 1, 3) := by decide +kernel
theorem dX0_shape_77 : decode M_X0_shape.2.1 77 = .ok (.goto (-33), 3) := by decide +kernel
theorem dX0_shape_80 : decode M_X0_shape.2.1 80 = .ok (.return_, 1) := by decide +kernel
def L_X0_shape_44 (X : ZX) (d n : Nat) (P : Option Value → ZSto → Prop) (o0 : Nat) (x2 : Int) (σ : ZSto) : Prop := R32 x2 → ZOk n σ → Zn X M_X0_shape d n P 44 [some (.ref (zB X + o0)), none, some (iV x2), none] [] σ
def L_X0_shape_54 (X : ZX) (d n : Nat) (P : Option Value → ZSto → Prop) (o0 : Nat) (x2 : Int) (x3 : Int) (σ : ZSto) : Prop := R32 x2 → R32 x3 → ZOk n σ → Zn X M_X0_shape d n P 54 [some (.ref (zB X + o0)), none, some (iV x2), some (iV x3)] [] σ
theorem w_X0_shape {X : ZX} {d n : Nat} {P : ZSto → Prop} {o0 : Nat} {x1 : Int} {σ : ZSto} (hn : 73 ≤ n) (hc0 : zIsB o0) (hx1 : R32 x1)
    (h : ZkV X M_J7_fill_031fb d n [.ref (zB X + (o0 + 1)), iV 0] σ (fun σ2 => (x1 = gI σ2 o0 7 → P σ2) ∧ (¬ (x1 = gI σ2 o0 7) → ZkZ X M_X9_isSize d n [iV x1] σ2 (fun v10 σ11 => (¬ v10 = 0 → R32 (x1 * x1) ∧ L_X0_shape_44 X d n (zpV P) o0 0 (sI (sI σ11 o0 7 x1) o0 8 (x1 * x1))) ∧ (v10 = 0 → P σ11))))) :
    ZkV X M_X0_shape (d + 1) n [.ref (zB X + o0), iV x1] σ P := by
  refine zk_of (ls := [some (.ref (zB X + o0)), some (iV x1), none, none]) pl_RX0 (Nat.le_of_ble_eq_true rfl) rfl (fun k0 => ?_)
  unfold Zn
  refine r_aload_n dX0_shape_0 rfl ?_
  refine r_getP (a := (o0 + 1)) dX0_shape_1 kf_RX0_9 (zB_lt hc0 hn) (zB_s hc0) rfl (k0.1 _ _ _ (zB_lt hc0 hn) (zB_p0 hc0)) ?_
  refine r_iconst dX0_shape_4 ?_
  refine n_callS (N := M_J7_fill_031fb) (As := [.ref (zB X + (o0 + 1)), iV 0]) (st := []) dX0_shape_5 mk_J7_fill_031fb km_RX0_54 kd_J7_fill_031fb rfl (zFits_rm d n n n (Nat.le_refl n)) (Nat.le_of_ble_eq_true rfl) rfl k0 h ?_
  rintro _ σ2 k3 ⟨rfl, h5⟩
  change Zm _ _ _ _ _ _ 8 _ [] _
  refine r_iload_n dX0_shape_8 rfl ?_
  refine r_aload_n dX0_shape_9 rfl ?_
  refine r_getI dX0_shape_10 kf_RX0_35 (zB_lt hc0 hn) (zB_s hc0) (Or.inl rfl) rfl ?_
  refine r_icmp_eq (t := 23) dX0_shape_13 rfl hx1 (k3.2.1 _ _) (fun c6 => ?_) (fun c7 => ?_)
  · have h8 := h5.1 c6
    exact r_return dX0_shape_23 rfl ⟨k3, rfl, h8⟩
  · have h9 := h5.2 c7
    refine r_iload_n dX0_shape_16 rfl ?_
    refine n_callS (N := M_X9_isSize) (As := [iV x1]) (st := []) dX0_shape_17 mk_X9_isSize km_RX0_60 kd_X9_isSize rfl (zFits_rm d n n n (Nat.le_refl n)) (Nat.le_of_ble_eq_true rfl) rfl k3 h9 ?_
    rintro _ σ11 k12 ⟨v10, rfl, h13, h14⟩
    change Zm _ _ _ _ _ _ 20 _ [iV v10] _
    refine r_if_ne (t := 24) dX0_shape_20 rfl (r32_z h13)  (fun c15 => ?_) (fun c16 => ?_)
    · have h17 := h14.1 c15
      refine r_aload_n dX0_shape_24 rfl ?_
      refine r_iload_n dX0_shape_25 rfl ?_
      refine r_putI dX0_shape_26 kf_RX0_35 (zB_lt hc0 hn) (zB_s hc0) rfl (Or.inl rfl) ?_
      have k18 := zok_o (i := 7) (x := x1) k12 (zB_s hc0) hx1
      refine r_aload_n dX0_shape_29 rfl ?_
      refine r_aload_n dX0_shape_30 rfl ?_
      refine r_getI dX0_shape_31 kf_RX0_35 (zB_lt hc0 hn) (zB_s hc0) (Or.inl rfl) (gI_same _ _ _ _) ?_
      refine r_aload_n dX0_shape_34 rfl ?_
      refine r_getI dX0_shape_35 kf_RX0_35 (zB_lt hc0 hn) (zB_s hc0) (Or.inl rfl) (gI_same _ _ _ _) ?_
      refine r_imul dX0_shape_38 ?_
      obtain ⟨h19, h20⟩ := h17
      refine r_putI dX0_shape_39 kf_RX0_39 (zB_lt hc0 hn) (zB_s hc0) rfl (Or.inl rfl) ?_
      have k21 := zok_o (i := 8) (x := x1 * x1) k18 (zB_s hc0) h19
      refine r_iconst dX0_shape_42 ?_
      refine r_istore_n dX0_shape_43 rfl rfl ?_
      exact r_mask [true, false, true, false] rfl (h20 (r32c rfl) k21)
    · have h22 := h14.2 c16
      exact r_return dX0_shape_23 rfl ⟨k12, rfl, h22⟩
theorem b_X0_shape_44 {X : ZX} {d n : Nat} {P : ZSto → Prop} {o0 : Nat} {x2 : Int} {σ : ZSto} (hn : 73 ≤ n) (hc0 : zIsB o0)
    (h : (gI σ o0 7 ≤ x2 → P σ) ∧ (¬ (gI σ o0 7 ≤ x2) → L_X0_shape_54 X d n (zpV P) o0 x2 0 σ)) :
    L_X0_shape_44 X d n (zpV P) o0 x2 σ := by
  intro hx2 k0
  unfold Zn
  refine r_iload_n dX0_shape_44 rfl ?_
  refine r_aload_n dX0_shape_45 rfl ?_
  refine r_getI dX0_shape_46 kf_RX0_35 (zB_lt hc0 hn) (zB_s hc0) (Or.inl rfl) rfl ?_
  refine r_icmp_ge (t := 80) dX0_shape_49 rfl hx2 (k0.2.1 _ _) (fun c1 => ?_) (fun c2 => ?_)
  · have h3 := h.1 c1
    exact r_return dX0_shape_80 rfl ⟨k0, rfl, h3⟩
  · have h4 := h.2 c2
    refine r_iconst dX0_shape_52 ?_
    refine r_istore_n dX0_shape_53 rfl rfl ?_
    exact r_mask [true, false, true, true] rfl (h4 hx2 (r32c rfl) k0)
theorem b_X0_shape_54 {X : ZX} {d n : Nat} {P : ZSto → Prop} {o0 : Nat} {x2 : Int} {x3 : Int} {σ : ZSto} (hn : 73 ≤ n) (hc0 : zIsB o0)
    (h : (gI σ o0 7 ≤ x3 → R32 (x2 + 1) ∧ L_X0_shape_44 X d n (zpV P) o0 (x2 + 1) σ) ∧ (¬ (gI σ o0 7 ≤ x3) → ZkV X M_X0_layNeighbours d n [.ref (zB X + o0), iV x2, iV x3] σ (fun σ8 => R32 (x3 + 1) ∧ L_X0_shape_54 X d n (zpV P) o0 x2 (x3 + 1) σ8))) :
    L_X0_shape_54 X d n (zpV P) o0 x2 x3 σ := by
  intro hx2 hx3 k0
  unfold Zn
  refine r_iload_n dX0_shape_54 rfl ?_
  refine r_aload_n dX0_shape_55 rfl ?_
  refine r_getI dX0_shape_56 kf_RX0_35 (zB_lt hc0 hn) (zB_s hc0) (Or.inl rfl) rfl ?_
  refine r_icmp_ge (t := 74) dX0_shape_59 rfl hx3 (k0.2.1 _ _) (fun c1 => ?_) (fun c2 => ?_)
  · have h3 := h.1 c1
    refine r_iinc dX0_shape_74 rfl rfl rfl ?_
    refine r_goto (t := 44) dX0_shape_77 rfl ?_
    obtain ⟨h4, h5⟩ := h3
    exact r_mask [true, false, true, false] rfl (h5 h4 k0)
  · have h6 := h.2 c2
    refine r_aload_n dX0_shape_62 rfl ?_
    refine r_iload_n dX0_shape_63 rfl ?_
    refine r_iload_n dX0_shape_64 rfl ?_
    refine n_callV (N := M_X0_layNeighbours) (As := [iV x2, iV x3]) (st := []) dX0_shape_65 mk_X0_layNeighbours km_RX0_64 kd_X0_layNeighbours rfl (zB_lt hc0 hn) (zB_s hc0) (q := (RX0, TX0, 13)) rfl rfl (zFits_rm d n n n (Nat.le_refl n)) (Nat.le_of_ble_eq_true rfl) rfl k0 h6 ?_
    rintro _ σ8 k9 ⟨rfl, h11⟩
    change Zm _ _ _ _ _ _ 68 _ [] _
    refine r_iinc dX0_shape_68 rfl rfl rfl ?_
    refine r_goto (t := 54) dX0_shape_71 rfl ?_
    obtain ⟨h12, h13⟩ := h11
    exact r_mask [true, false, true, true] rfl (h13 hx2 h12 k9)
/-! StoneRoom$Board.layNeighbours -/
theorem dX0_layNeighbours_0 : decode M_X0_layNeighbours.2.1 0 = .ok (.iload_n 1, 1) := by decide +kernel
theorem dX0_layNeighbours_1 : decode M_X0_layNeighbours.2.1 1 = .ok (.aload_n 0, 1) := by decide +kernel
theorem dX0_layNeighbours_2 : decode M_X0_layNeighbours.2.1 2 = .ok (.getfield 35, 3) := by decide +kernel
theorem dX0_layNeighbours_5 : decode M_X0_layNeighbours.2.1 5 = .ok (.imul, 1) := by decide +kernel
theorem dX0_layNeighbours_6 : decode M_X0_layNeighbours.2.1 6 = .ok (.iload_n 2, 1) := by decide +kernel
theorem dX0_layNeighbours_7 : decode M_X0_layNeighbours.2.1 7 = .ok (.iadd, 1) := by decide +kernel
theorem dX0_layNeighbours_8 : decode M_X0_layNeighbours.2.1 8 = .ok (.istore_n 3, 1) := by decide +kernel
theorem dX0_layNeighbours_9 : decode M_X0_layNeighbours.2.1 9 = .ok (.iconst 4, 1) := by decide +kernel
theorem dX0_layNeighbours_10 : decode M_X0_layNeighbours.2.1 10 = .ok (.iload_n 3, 1) := by decide +kernel
theorem dX0_layNeighbours_11 : decode M_X0_layNeighbours.2.1 11 = .ok (.imul, 1) := by decide +kernel
theorem dX0_layNeighbours_12 : decode M_X0_layNeighbours.2.1 12 = .ok (.istore 4, 2) := by decide +kernel
theorem dX0_layNeighbours_14 : decode M_X0_layNeighbours.2.1 14 = .ok (.aload_n 0, 1) := by decide +kernel
theorem dX0_layNeighbours_15 : decode M_X0_layNeighbours.2.1 15 = .ok (.getfield 15, 3) := by decide +kernel
theorem dX0_layNeighbours_18 : decode M_X0_layNeighbours.2.1 18 = .ok (.iload 4, 2) := by decide +kernel
theorem dX0_layNeighbours_20 : decode M_X0_layNeighbours.2.1 20 = .ok (.iload_n 1, 1) := by decide +kernel
theorem dX0_layNeighbours_21 : decode M_X0_layNeighbours.2.1 21 = .ok (.ifCond .le 12, 3) := by decide +kernel
theorem dX0_layNeighbours_24 : decode M_X0_layNeighbours.2.1 24 = .ok (.iload_n 3, 1) := by decide +kernel
theorem dX0_layNeighbours_25 : decode M_X0_layNeighbours.2.1 25 = .ok (.aload_n 0, 1) := by decide +kernel
theorem dX0_layNeighbours_26 : decode M_X0_layNeighbours.2.1 26 = .ok (.getfield 35, 3) := by decide +kernel
theorem dX0_layNeighbours_29 : decode M_X0_layNeighbours.2.1 29 = .ok (.isub, 1) := by decide +kernel
theorem dX0_layNeighbours_30 : decode M_X0_layNeighbours.2.1 30 = .ok (.goto 4, 3) := by decide +kernel
theorem dX0_layNeighbours_33 : decode M_X0_layNeighbours.2.1 33 = .ok (.iconst (-1), 1) := by decide +kernel
theorem dX0_layNeighbours_34 : decode M_X0_layNeighbours.2.1 34 = .ok (.iastore, 1) := by decide +kernel
theorem dX0_layNeighbours_35 : decode M_X0_layNeighbours.2.1 35 = .ok (.aload_n 0, 1) := by decide +kernel
theorem dX0_layNeighbours_36 : decode M_X0_layNeighbours.2.1 36 = .ok (.getfield 15, 3) := by decide +kernel
theorem dX0_layNeighbours_39 : decode M_X0_layNeighbours.2.1 39 = .ok (.iload 4, 2) := by decide +kernel
theorem dX0_layNeighbours_41 : decode M_X0_layNeighbours.2.1 41 = .ok (.iconst 1, 1) := by decide +kernel
theorem dX0_layNeighbours_42 : decode M_X0_layNeighbours.2.1 42 = .ok (.iadd, 1) := by decide +kernel
theorem dX0_layNeighbours_43 : decode M_X0_layNeighbours.2.1 43 = .ok (.iload_n 2, 1) := by decide +kernel
theorem dX0_layNeighbours_44 : decode M_X0_layNeighbours.2.1 44 = .ok (.ifCond .le 9, 3) := by decide +kernel
theorem dX0_layNeighbours_47 : decode M_X0_layNeighbours.2.1 47 = .ok (.iload_n 3, 1) := by decide +kernel
theorem dX0_layNeighbours_48 : decode M_X0_layNeighbours.2.1 48 = .ok (.iconst 1, 1) := by decide +kernel
theorem dX0_layNeighbours_49 : decode M_X0_layNeighbours.2.1 49 = .ok (.isub, 1) := by decide +kernel
theorem dX0_layNeighbours_50 : decode M_X0_layNeighbours.2.1 50 = .ok (.goto 4, 3) := by decide +kernel
theorem dX0_layNeighbours_53 : decode M_X0_layNeighbours.2.1 53 = .ok (.iconst (-1), 1) := by decide +kernel
theorem dX0_layNeighbours_54 : decode M_X0_layNeighbours.2.1 54 = .ok (.iastore, 1) := by decide +kernel
theorem dX0_layNeighbours_55 : decode M_X0_layNeighbours.2.1 55 = .ok (.aload_n 0, 1) := by decide +kernel
theorem dX0_layNeighbours_56 : decode M_X0_layNeighbours.2.1 56 = .ok (.getfield 15, 3) := by decide +kernel
theorem dX0_layNeighbours_59 : decode M_X0_layNeighbours.2.1 59 = .ok (.iload 4, 2) := by decide +kernel
theorem dX0_layNeighbours_61 : decode M_X0_layNeighbours.2.1 61 = .ok (.iconst 2, 1) := by decide +kernel
theorem dX0_layNeighbours_62 : decode M_X0_layNeighbours.2.1 62 = .ok (.iadd, 1) := by decide +kernel
theorem dX0_layNeighbours_63 : decode M_X0_layNeighbours.2.1 63 = .ok (.iload_n 2, 1) := by decide +kernel
theorem dX0_layNeighbours_64 : decode M_X0_layNeighbours.2.1 64 = .ok (.aload_n 0, 1) := by decide +kernel
theorem dX0_layNeighbours_65 : decode M_X0_layNeighbours.2.1 65 = .ok (.getfield 35, 3) := by decide +kernel
theorem dX0_layNeighbours_68 : decode M_X0_layNeighbours.2.1 68 = .ok (.iconst 1, 1) := by decide +kernel
theorem dX0_layNeighbours_69 : decode M_X0_layNeighbours.2.1 69 = .ok (.isub, 1) := by decide +kernel
theorem dX0_layNeighbours_70 : decode M_X0_layNeighbours.2.1 70 = .ok (.if_icmp .ge 9, 3) := by decide +kernel
theorem dX0_layNeighbours_73 : decode M_X0_layNeighbours.2.1 73 = .ok (.iload_n 3, 1) := by decide +kernel
theorem dX0_layNeighbours_74 : decode M_X0_layNeighbours.2.1 74 = .ok (.iconst 1, 1) := by decide +kernel
theorem dX0_layNeighbours_75 : decode M_X0_layNeighbours.2.1 75 = .ok (.iadd, 1) := by decide +kernel
theorem dX0_layNeighbours_76 : decode M_X0_layNeighbours.2.1 76 = .ok (.goto 4, 3) := by decide +kernel
theorem dX0_layNeighbours_79 : decode M_X0_layNeighbours.2.1 79 = .ok (.iconst (-1), 1) := by decide +kernel
theorem dX0_layNeighbours_80 : decode M_X0_layNeighbours.2.1 80 = .ok (.iastore, 1) := by decide +kernel
theorem dX0_layNeighbours_81 : decode M_X0_layNeighbours.2.1 81 = .ok (.aload_n 0, 1) := by decide +kernel
theorem dX0_layNeighbours_82 : decode M_X0_layNeighbours.2.1 82 = .ok (.getfield 15, 3) := by decide +kernel
theorem dX0_layNeighbours_85 : decode M_X0_layNeighbours.2.1 85 = .ok (.iload 4, 2) := by decide +kernel
theorem dX0_layNeighbours_87 : decode M_X0_layNeighbours.2.1 87 = .ok (.iconst 3, 1) := by decide +kernel
theorem dX0_layNeighbours_88 : decode M_X0_layNeighbours.2.1 88 = .ok (.iadd, 1) := by decide +kernel
theorem dX0_layNeighbours_89 : decode M_X0_layNeighbours.2.1 89 = .ok (.iload_n 1, 1) := by decide +kernel
theorem dX0_layNeighbours_90 : decode M_X0_layNeighbours.2.1 90 = .ok (.aload_n 0, 1) := by decide +kernel
theorem dX0_layNeighbours_91 : decode M_X0_layNeighbours.2.1 91 = .ok (.getfield 35, 3) := by decide +kernel
theorem dX0_layNeighbours_94 : decode M_X0_layNeighbours.2.1 94 = .ok (.iconst 1, 1) := by decide +kernel
theorem dX0_layNeighbours_95 : decode M_X0_layNeighbours.2.1 95 = .ok (.isub, 1) := by decide +kernel
theorem dX0_layNeighbours_96 : decode M_X0_layNeighbours.2.1 96 = .ok (.if_icmp .ge 12, 3) := by decide +kernel
theorem dX0_layNeighbours_99 : decode M_X0_layNeighbours.2.1 99 = .ok (.iload_n 3, 1) := by decide +kernel
theorem dX0_layNeighbours_100 : decode M_X0_layNeighbours.2.1 100 = .ok (.aload_n 0, 1) := by decide +kernel
theorem dX0_layNeighbours_101 : decode M_X0_layNeighbours.2.1 101 = .ok (.getfield 35, 3) := by decide +kernel
theorem dX0_layNeighbours_104 : decode M_X0_layNeighbours.2.1 104 = .ok (.iadd, 1) := by decide +kernel
theorem dX0_layNeighbours_105 : decode M_X0_layNeighbours.2.1 105 = .ok (.goto 4, 3) := by decide +kernel
theorem dX0_layNeighbours_108 : decode M_X0_layNeighbours.2.1 108 = .ok (.iconst (-1), 1) := by decide +kernel
theorem dX0_layNeighbours_109 : decode M_X0_layNeighbours.2.1 109 = .ok (.iastore, 1) := by decide +kernel
theorem dX0_layNeighbours_110 : decode M_X0_layNeighbours.2.1 110 = .ok (.return_, 1) := by decide +kernel
theorem w_X0_layNeighbours {X : ZX} {d n : Nat} {P : ZSto → Prop} {o0 : Nat} {x1 : Int} {x2 : Int} {σ : ZSto} (hn : 73 ≤ n) (hc0 : zIsB o0) (hx1 : R32 x1) (hx2 : R32 x2)
    (h : (∀ y1 : Int, y1 = (x1 * (gI σ o0 7)) + x2 → (x1 ≤ 0 → (0 ≤ 4 * y1 ∧ 4 * y1 < 324) ∧ (x2 ≤ 0 → (0 ≤ (4 * y1) + 1 ∧ (4 * y1) + 1 < 324) ∧ R32 ((gI σ o0 7) - 1) ∧ ((gI σ o0 7) - 1 ≤ x2 → (0 ≤ (4 * y1) + 2 ∧ (4 * y1) + 2 < 324) ∧ ((gI σ o0 7) - 1 ≤ x1 → (0 ≤ (4 * y1) + 3 ∧ (4 * y1) + 3 < 324) ∧ P (sI (sI (sI (sI σ (o0 + 2) ((4 * y1).toNat) ((-1))) (o0 + 2) (((4 * y1) + 1).toNat) ((-1))) (o0 + 2) (((4 * y1) + 2).toNat) ((-1))) (o0 + 2) (((4 * y1) + 3).toNat) ((-1)))) ∧ (¬ ((gI σ o0 7) - 1 ≤ x1) → (0 ≤ (4 * y1) + 3 ∧ (4 * y1) + 3 < 324) ∧ R32 (y1 + (gI σ o0 7)) ∧ P (sI (sI (sI (sI σ (o0 + 2) ((4 * y1).toNat) ((-1))) (o0 + 2) (((4 * y1) + 1).toNat) ((-1))) (o0 + 2) (((4 * y1) + 2).toNat) ((-1))) (o0 + 2) (((4 * y1) + 3).toNat) (y1 + (gI σ o0 7))))) ∧ (¬ ((gI σ o0 7) - 1 ≤ x2) → (0 ≤ (4 * y1) + 2 ∧ (4 * y1) + 2 < 324) ∧ R32 (y1 + 1) ∧ ((gI σ o0 7) - 1 ≤ x1 → (0 ≤ (4 * y1) + 3 ∧ (4 * y1) + 3 < 324) ∧ P (sI (sI (sI (sI σ (o0 + 2) ((4 * y1).toNat) ((-1))) (o0 + 2) (((4 * y1) + 1).toNat) ((-1))) (o0 + 2) (((4 * y1) + 2).toNat) (y1 + 1)) (o0 + 2) (((4 * y1) + 3).toNat) ((-1)))) ∧ (¬ ((gI σ o0 7) - 1 ≤ x1) → (0 ≤ (4 * y1) + 3 ∧ (4 * y1) + 3 < 324) ∧ R32 (y1 + (gI σ o0 7)) ∧ P (sI (sI (sI (sI σ (o0 + 2) ((4 * y1).toNat) ((-1))) (o0 + 2) (((4 * y1) + 1).toNat) ((-1))) (o0 + 2) (((4 * y1) + 2).toNat) (y1 + 1)) (o0 + 2) (((4 * y1) + 3).toNat) (y1 + (gI σ o0 7)))))) ∧ (¬ (x2 ≤ 0) → (0 ≤ (4 * y1) + 1 ∧ (4 * y1) + 1 < 324) ∧ R32 (y1 - 1) ∧ R32 ((gI σ o0 7) - 1) ∧ ((gI σ o0 7) - 1 ≤ x2 → (0 ≤ (4 * y1) + 2 ∧ (4 * y1) + 2 < 324) ∧ ((gI σ o0 7) - 1 ≤ x1 → (0 ≤ (4 * y1) + 3 ∧ (4 * y1) + 3 < 324) ∧ P (sI (sI (sI (sI σ (o0 + 2) ((4 * y1).toNat) ((-1))) (o0 + 2) (((4 * y1) + 1).toNat) (y1 - 1)) (o0 + 2) (((4 * y1) + 2).toNat) ((-1))) (o0 + 2) (((4 * y1) + 3).toNat) ((-1)))) ∧ (¬ ((gI σ o0 7) - 1 ≤ x1) → (0 ≤ (4 * y1) + 3 ∧ (4 * y1) + 3 < 324) ∧ R32 (y1 + (gI σ o0 7)) ∧ P (sI (sI (sI (sI σ (o0 + 2) ((4 * y1).toNat) ((-1))) (o0 + 2) (((4 * y1) + 1).toNat) (y1 - 1)) (o0 + 2) (((4 * y1) + 2).toNat) ((-1))) (o0 + 2) (((4 * y1) + 3).toNat) (y1 + (gI σ o0 7))))) ∧ (¬ ((gI σ o0 7) - 1 ≤ x2) → (0 ≤ (4 * y1) + 2 ∧ (4 * y1) + 2 < 324) ∧ R32 (y1 + 1) ∧ ((gI σ o0 7) - 1 ≤ x1 → (0 ≤ (4 * y1) + 3 ∧ (4 * y1) + 3 < 324) ∧ P (sI (sI (sI (sI σ (o0 + 2) ((4 * y1).toNat) ((-1))) (o0 + 2) (((4 * y1) + 1).toNat) (y1 - 1)) (o0 + 2) (((4 * y1) + 2).toNat) (y1 + 1)) (o0 + 2) (((4 * y1) + 3).toNat) ((-1)))) ∧ (¬ ((gI σ o0 7) - 1 ≤ x1) → (0 ≤ (4 * y1) + 3 ∧ (4 * y1) + 3 < 324) ∧ R32 (y1 + (gI σ o0 7)) ∧ P (sI (sI (sI (sI σ (o0 + 2) ((4 * y1).toNat) ((-1))) (o0 + 2) (((4 * y1) + 1).toNat) (y1 - 1)) (o0 + 2) (((4 * y1) + 2).toNat) (y1 + 1)) (o0 + 2) (((4 * y1) + 3).toNat) (y1 + (gI σ o0 7))))))) ∧ (¬ (x1 ≤ 0) → (0 ≤ 4 * y1 ∧ 4 * y1 < 324) ∧ R32 (y1 - (gI σ o0 7)) ∧ (x2 ≤ 0 → (0 ≤ (4 * y1) + 1 ∧ (4 * y1) + 1 < 324) ∧ R32 ((gI σ o0 7) - 1) ∧ ((gI σ o0 7) - 1 ≤ x2 → (0 ≤ (4 * y1) + 2 ∧ (4 * y1) + 2 < 324) ∧ ((gI σ o0 7) - 1 ≤ x1 → (0 ≤ (4 * y1) + 3 ∧ (4 * y1) + 3 < 324) ∧ P (sI (sI (sI (sI σ (o0 + 2) ((4 * y1).toNat) (y1 - (gI σ o0 7))) (o0 + 2) (((4 * y1) + 1).toNat) ((-1))) (o0 + 2) (((4 * y1) + 2).toNat) ((-1))) (o0 + 2) (((4 * y1) + 3).toNat) ((-1)))) ∧ (¬ ((gI σ o0 7) - 1 ≤ x1) → (0 ≤ (4 * y1) + 3 ∧ (4 * y1) + 3 < 324) ∧ R32 (y1 + (gI σ o0 7)) ∧ P (sI (sI (sI (sI σ (o0 + 2) ((4 * y1).toNat) (y1 - (gI σ o0 7))) (o0 + 2) (((4 * y1) + 1).toNat) ((-1))) (o0 + 2) (((4 * y1) + 2).toNat) ((-1))) (o0 + 2) (((4 * y1) + 3).toNat) (y1 + (gI σ o0 7))))) ∧ (¬ ((gI σ o0 7) - 1 ≤ x2) → (0 ≤ (4 * y1) + 2 ∧ (4 * y1) + 2 < 324) ∧ R32 (y1 + 1) ∧ ((gI σ o0 7) - 1 ≤ x1 → (0 ≤ (4 * y1) + 3 ∧ (4 * y1) + 3 < 324) ∧ P (sI (sI (sI (sI σ (o0 + 2) ((4 * y1).toNat) (y1 - (gI σ o0 7))) (o0 + 2) (((4 * y1) + 1).toNat) ((-1))) (o0 + 2) (((4 * y1) + 2).toNat) (y1 + 1)) (o0 + 2) (((4 * y1) + 3).toNat) ((-1)))) ∧ (¬ ((gI σ o0 7) - 1 ≤ x1) → (0 ≤ (4 * y1) + 3 ∧ (4 * y1) + 3 < 324) ∧ R32 (y1 + (gI σ o0 7)) ∧ P (sI (sI (sI (sI σ (o0 + 2) ((4 * y1).toNat) (y1 - (gI σ o0 7))) (o0 + 2) (((4 * y1) + 1).toNat) ((-1))) (o0 + 2) (((4 * y1) + 2).toNat) (y1 + 1)) (o0 + 2) (((4 * y1) + 3).toNat) (y1 + (gI σ o0 7)))))) ∧ (¬ (x2 ≤ 0) → (0 ≤ (4 * y1) + 1 ∧ (4 * y1) + 1 < 324) ∧ R32 (y1 - 1) ∧ R32 ((gI σ o0 7) - 1) ∧ ((gI σ o0 7) - 1 ≤ x2 → (0 ≤ (4 * y1) + 2 ∧ (4 * y1) + 2 < 324) ∧ ((gI σ o0 7) - 1 ≤ x1 → (0 ≤ (4 * y1) + 3 ∧ (4 * y1) + 3 < 324) ∧ P (sI (sI (sI (sI σ (o0 + 2) ((4 * y1).toNat) (y1 - (gI σ o0 7))) (o0 + 2) (((4 * y1) + 1).toNat) (y1 - 1)) (o0 + 2) (((4 * y1) + 2).toNat) ((-1))) (o0 + 2) (((4 * y1) + 3).toNat) ((-1)))) ∧ (¬ ((gI σ o0 7) - 1 ≤ x1) → (0 ≤ (4 * y1) + 3 ∧ (4 * y1) + 3 < 324) ∧ R32 (y1 + (gI σ o0 7)) ∧ P (sI (sI (sI (sI σ (o0 + 2) ((4 * y1).toNat) (y1 - (gI σ o0 7))) (o0 + 2) (((4 * y1) + 1).toNat) (y1 - 1)) (o0 + 2) (((4 * y1) + 2).toNat) ((-1))) (o0 + 2) (((4 * y1) + 3).toNat) (y1 + (gI σ o0 7))))) ∧ (¬ ((gI σ o0 7) - 1 ≤ x2) → (0 ≤ (4 * y1) + 2 ∧ (4 * y1) + 2 < 324) ∧ R32 (y1 + 1) ∧ ((gI σ o0 7) - 1 ≤ x1 → (0 ≤ (4 * y1) + 3 ∧ (4 * y1) + 3 < 324) ∧ P (sI (sI (sI (sI σ (o0 + 2) ((4 * y1).toNat) (y1 - (gI σ o0 7))) (o0 + 2) (((4 * y1) + 1).toNat) (y1 - 1)) (o0 + 2) (((4 * y1) + 2).toNat) (y1 + 1)) (o0 + 2) (((4 * y1) + 3).toNat) ((-1)))) ∧ (¬ ((gI σ o0 7) - 1 ≤ x1) → (0 ≤ (4 * y1) + 3 ∧ (4 * y1) + 3 < 324) ∧ R32 (y1 + (gI σ o0 7)) ∧ P (sI (sI (sI (sI σ (o0 + 2) ((4 * y1).toNat) (y1 - (gI σ o0 7))) (o0 + 2) (((4 * y1) + 1).toNat) (y1 - 1)) (o0 + 2) (((4 * y1) + 2).toNat) (y1 + 1)) (o0 + 2) (((4 * y1) + 3).toNat) (y1 + (gI σ o0 7))))))))) :
    ZkV X M_X0_layNeighbours (d + 1) n [.ref (zB X + o0), iV x1, iV x2] σ P := by
  refine zk_of (ls := [some (.ref (zB X + o0)), some (iV x1), some (iV x2), none, none]) pl_RX0 (Nat.le_of_ble_eq_true rfl) rfl (fun k0 => ?_)
  unfold Zn
  refine r_iload_n dX0_layNeighbours_0 rfl ?_
  refine r_aload_n dX0_layNeighbours_1 rfl ?_
  refine r_getI dX0_layNeighbours_2 kf_RX0_35 (zB_lt hc0 hn) (zB_s hc0) (Or.inl rfl) rfl ?_
  refine r_imul dX0_layNeighbours_5 ?_
  refine r_iload_n dX0_layNeighbours_6 rfl ?_
  refine r_iadd dX0_layNeighbours_7 ?_
  refine r_name (fun y1 e2 => ?_)
  have h3 := h y1 e2
  refine r_istore_n dX0_layNeighbours_8 rfl rfl ?_
  refine r_iconst dX0_layNeighbours_9 ?_
  refine r_iload_n dX0_layNeighbours_10 rfl ?_
  refine r_imul dX0_layNeighbours_11 ?_
  refine r_istore dX0_layNeighbours_12 rfl rfl ?_
  refine r_aload_n dX0_layNeighbours_14 rfl ?_
  refine r_getP (a := (o0 + 2)) dX0_layNeighbours_15 kf_RX0_15 (zB_lt hc0 hn) (zB_s hc0) rfl (k0.1 _ _ _ (zB_lt hc0 hn) (zB_p1 hc0)) ?_
  refine r_iload dX0_layNeighbours_18 rfl ?_
  refine r_iload_n dX0_layNeighbours_20 rfl ?_
  refine r_if_le (t := 33) dX0_layNeighbours_21 rfl hx1  (fun c4 => ?_) (fun c5 => ?_)
  · have h6 := h3.1 c4
    refine r_iconst dX0_layNeighbours_33 ?_
    obtain ⟨h7, h8⟩ := h6
    refine r_iastore dX0_layNeighbours_34 (zB_l1 hc0 hn) (zB_s1 hc0) h7.1 h7.2 ?_
    have k9 := zok_i (i := (4 * y1).toNat) (x := (-1)) k0 (zB_s1 hc0) (r32c rfl)
    refine r_aload_n dX0_layNeighbours_35 rfl ?_
    refine r_getP (a := (o0 + 2)) dX0_layNeighbours_36 kf_RX0_15 (zB_lt hc0 hn) (zB_s hc0) rfl (k9.1 _ _ _ (zB_lt hc0 hn) (zB_p1 hc0)) ?_
    refine r_iload dX0_layNeighbours_39 rfl ?_
    refine r_iconst dX0_layNeighbours_41 ?_
    refine r_iadd dX0_layNeighbours_42 ?_
    refine r_iload_n dX0_layNeighbours_43 rfl ?_
    refine r_if_le (t := 53) dX0_layNeighbours_44 rfl hx2  (fun c10 => ?_) (fun c11 => ?_)
    · have h12 := h8.1 c10
      refine r_iconst dX0_layNeighbours_53 ?_
      obtain ⟨h13, h14⟩ := h12
      refine r_iastore dX0_layNeighbours_54 (zB_l1 hc0 hn) (zB_s1 hc0) h13.1 h13.2 ?_
      have k15 := zok_i (i := ((4 * y1) + 1).toNat) (x := (-1)) k9 (zB_s1 hc0) (r32c rfl)
      refine r_aload_n dX0_layNeighbours_55 rfl ?_
      refine r_getP (a := (o0 + 2)) dX0_layNeighbours_56 kf_RX0_15 (zB_lt hc0 hn) (zB_s hc0) rfl (k15.1 _ _ _ (zB_lt hc0 hn) (zB_p1 hc0)) ?_
      refine r_iload dX0_layNeighbours_59 rfl ?_
      refine r_iconst dX0_layNeighbours_61 ?_
      refine r_iadd dX0_layNeighbours_62 ?_
      refine r_iload_n dX0_layNeighbours_63 rfl ?_
      refine r_aload_n dX0_layNeighbours_64 rfl ?_
      refine r_getI dX0_layNeighbours_65 kf_RX0_35 (zB_lt hc0 hn) (zB_s hc0) (Or.inl rfl) ((gI_c (by omega)).trans (gI_c (by omega))) ?_
      refine r_iconst dX0_layNeighbours_68 ?_
      refine r_isub dX0_layNeighbours_69 ?_
      obtain ⟨h16, h17⟩ := h14
      refine r_icmp_ge (t := 79) dX0_layNeighbours_70 rfl hx2 h16 (fun c18 => ?_) (fun c19 => ?_)
      · have h20 := h17.1 c18
        refine r_iconst dX0_layNeighbours_79 ?_
        obtain ⟨h21, h22⟩ := h20
        refine r_iastore dX0_layNeighbours_80 (zB_l1 hc0 hn) (zB_s1 hc0) h21.1 h21.2 ?_
        have k23 := zok_i (i := ((4 * y1) + 2).toNat) (x := (-1)) k15 (zB_s1 hc0) (r32c rfl)
        refine r_aload_n dX0_layNeighbours_81 rfl ?_
        refine r_getP (a := (o0 + 2)) dX0_layNeighbours_82 kf_RX0_15 (zB_lt hc0 hn) (zB_s hc0) rfl (k23.1 _ _ _ (zB_lt hc0 hn) (zB_p1 hc0)) ?_
        refine r_iload dX0_layNeighbours_85 rfl ?_
        refine r_iconst dX0_layNeighbours_87 ?_
        refine r_iadd dX0_layNeighbours_88 ?_
        refine r_iload_n dX0_layNeighbours_89 rfl ?_
        refine r_aload_n dX0_layNeighbours_90 rfl ?_
        refine r_getI dX0_layNeighbours_91 kf_RX0_35 (zB_lt hc0 hn) (zB_s hc0) (Or.inl rfl) ((gI_c (by omega)).trans ((gI_c (by omega)).trans (gI_c (by omega)))) ?_
        refine r_iconst dX0_layNeighbours_94 ?_
        refine r_isub dX0_layNeighbours_95 ?_
        refine r_icmp_ge (t := 108) dX0_layNeighbours_96 rfl hx1 h16 (fun c24 => ?_) (fun c25 => ?_)
        · have h26 := h22.1 c24
          refine r_iconst dX0_layNeighbours_108 ?_
          obtain ⟨h27, h28⟩ := h26
          refine r_iastore dX0_layNeighbours_109 (zB_l1 hc0 hn) (zB_s1 hc0) h27.1 h27.2 ?_
          have k29 := zok_i (i := ((4 * y1) + 3).toNat) (x := (-1)) k23 (zB_s1 hc0) (r32c rfl)
          exact r_return dX0_layNeighbours_110 rfl ⟨k29, rfl, h28⟩
        · have h30 := h22.2 c25
          refine r_iload_n dX0_layNeighbours_99 rfl ?_
          refine r_aload_n dX0_layNeighbours_100 rfl ?_
          refine r_getI dX0_layNeighbours_101 kf_RX0_35 (zB_lt hc0 hn) (zB_s hc0) (Or.inl rfl) ((gI_c (by omega)).trans ((gI_c (by omega)).trans (gI_c (by omega)))) ?_
          refine r_iadd dX0_layNeighbours_104 ?_
          refine r_goto (t := 109) dX0_layNeighbours_105 rfl ?_
          obtain ⟨h31, h32⟩ := h30
          obtain ⟨h34, h35⟩ := h32
          refine r_iastore dX0_layNeighbours_109 (zB_l1 hc0 hn) (zB_s1 hc0) h31.1 h31.2 ?_
          have k33 := zok_i (i := ((4 * y1) + 3).toNat) (x := y1 + (gI σ o0 7)) k23 (zB_s1 hc0) h34
          exact r_return dX0_layNeighbours_110 rfl ⟨k33, rfl, h35⟩
      · have h36 := h17.2 c19
        refine r_iload_n dX0_layNeighbours_73 rfl ?_
        refine r_iconst dX0_layNeighbours_74 ?_
        refine r_iadd dX0_layNeighbours_75 ?_
        refine r_goto (t := 80) dX0_layNeighbours_76 rfl ?_
        obtain ⟨h37, h38⟩ := h36
        obtain ⟨h40, h41⟩ := h38
        refine r_iastore dX0_layNeighbours_80 (zB_l1 hc0 hn) (zB_s1 hc0) h37.1 h37.2 ?_
        have k39 := zok_i (i := ((4 * y1) + 2).toNat) (x := y1 + 1) k15 (zB_s1 hc0) h40
        refine r_aload_n dX0_layNeighbours_81 rfl ?_
        refine r_getP (a := (o0 + 2)) dX0_layNeighbours_82 kf_RX0_15 (zB_lt hc0 hn) (zB_s hc0) rfl (k39.1 _ _ _ (zB_lt hc0 hn) (zB_p1 hc0)) ?_
        refine r_iload dX0_layNeighbours_85 rfl ?_
        refine r_iconst dX0_layNeighbours_87 ?_
        refine r_iadd dX0_layNeighbours_88 ?_
        refine r_iload_n dX0_layNeighbours_89 rfl ?_
        refine r_aload_n dX0_layNeighbours_90 rfl ?_
        refine r_getI dX0_layNeighbours_91 kf_RX0_35 (zB_lt hc0 hn) (zB_s hc0) (Or.inl rfl) ((gI_c (by omega)).trans ((gI_c (by omega)).trans (gI_c (by omega)))) ?_
        refine r_iconst dX0_layNeighbours_94 ?_
        refine r_isub dX0_layNeighbours_95 ?_
        refine r_icmp_ge (t := 108) dX0_layNeighbours_96 rfl hx1 h16 (fun c42 => ?_) (fun c43 => ?_)
        · have h44 := h41.1 c42
          refine r_iconst dX0_layNeighbours_108 ?_
          obtain ⟨h45, h46⟩ := h44
          refine r_iastore dX0_layNeighbours_109 (zB_l1 hc0 hn) (zB_s1 hc0) h45.1 h45.2 ?_
          have k47 := zok_i (i := ((4 * y1) + 3).toNat) (x := (-1)) k39 (zB_s1 hc0) (r32c rfl)
          exact r_return dX0_layNeighbours_110 rfl ⟨k47, rfl, h46⟩
        · have h48 := h41.2 c43
          refine r_iload_n dX0_layNeighbours_99 rfl ?_
          refine r_aload_n dX0_layNeighbours_100 rfl ?_
          refine r_getI dX0_layNeighbours_101 kf_RX0_35 (zB_lt hc0 hn) (zB_s hc0) (Or.inl rfl) ((gI_c (by omega)).trans ((gI_c (by omega)).trans (gI_c (by omega)))) ?_
          refine r_iadd dX0_layNeighbours_104 ?_
          refine r_goto (t := 109) dX0_layNeighbours_105 rfl ?_
          obtain ⟨h49, h50⟩ := h48
          obtain ⟨h52, h53⟩ := h50
          refine r_iastore dX0_layNeighbours_109 (zB_l1 hc0 hn) (zB_s1 hc0) h49.1 h49.2 ?_
          have k51 := zok_i (i := ((4 * y1) + 3).toNat) (x := y1 + (gI σ o0 7)) k39 (zB_s1 hc0) h52
          exact r_return dX0_layNeighbours_110 rfl ⟨k51, rfl, h53⟩
    · have h54 := h8.2 c11
      refine r_iload_n dX0_layNeighbours_47 rfl ?_
      refine r_iconst dX0_layNeighbours_48 ?_
      refine r_isub dX0_layNeighbours_49 ?_
      refine r_goto (t := 54) dX0_layNeighbours_50 rfl ?_
      obtain ⟨h55, h56⟩ := h54
      obtain ⟨h58, h59⟩ := h56
      refine r_iastore dX0_layNeighbours_54 (zB_l1 hc0 hn) (zB_s1 hc0) h55.1 h55.2 ?_
      have k57 := zok_i (i := ((4 * y1) + 1).toNat) (x := y1 - 1) k9 (zB_s1 hc0) h58
      refine r_aload_n dX0_layNeighbours_55 rfl ?_
      refine r_getP (a := (o0 + 2)) dX0_layNeighbours_56 kf_RX0_15 (zB_lt hc0 hn) (zB_s hc0) rfl (k57.1 _ _ _ (zB_lt hc0 hn) (zB_p1 hc0)) ?_
      refine r_iload dX0_layNeighbours_59 rfl ?_
      refine r_iconst dX0_layNeighbours_61 ?_
      refine r_iadd dX0_layNeighbours_62 ?_
      refine r_iload_n dX0_layNeighbours_63 rfl ?_
      refine r_aload_n dX0_layNeighbours_64 rfl ?_
      refine r_getI dX0_layNeighbours_65 kf_RX0_35 (zB_lt hc0 hn) (zB_s hc0) (Or.inl rfl) ((gI_c (by omega)).trans (gI_c (by omega))) ?_
      refine r_iconst dX0_layNeighbours_68 ?_
      refine r_isub dX0_layNeighbours_69 ?_
      obtain ⟨h60, h61⟩ := h59
      refine r_icmp_ge (t := 79) dX0_layNeighbours_70 rfl hx2 h60 (fun c62 => ?_) (fun c63 => ?_)
      · have h64 := h61.1 c62
        refine r_iconst dX0_layNeighbours_79 ?_
        obtain ⟨h65, h66⟩ := h64
        refine r_iastore dX0_layNeighbours_80 (zB_l1 hc0 hn) (zB_s1 hc0) h65.1 h65.2 ?_
        have k67 := zok_i (i := ((4 * y1) + 2).toNat) (x := (-1)) k57 (zB_s1 hc0) (r32c rfl)
        refine r_aload_n dX0_layNeighbours_81 rfl ?_
        refine r_getP (a := (o0 + 2)) dX0_layNeighbours_82 kf_RX0_15 (zB_lt hc0 hn) (zB_s hc0) rfl (k67.1 _ _ _ (zB_lt hc0 hn) (zB_p1 hc0)) ?_
        refine r_iload dX0_layNeighbours_85 rfl ?_
        refine r_iconst dX0_layNeighbours_87 ?_
        refine r_iadd dX0_layNeighbours_88 ?_
        refine r_iload_n dX0_layNeighbours_89 rfl ?_
        refine r_aload_n dX0_layNeighbours_90 rfl ?_
        refine r_getI dX0_layNeighbours_91 kf_RX0_35 (zB_lt hc0 hn) (zB_s hc0) (Or.inl rfl) ((gI_c (by omega)).trans ((gI_c (by omega)).trans (gI_c (by omega)))) ?_
        refine r_iconst dX0_layNeighbours_94 ?_
        refine r_isub dX0_layNeighbours_95 ?_
        refine r_icmp_ge (t := 108) dX0_layNeighbours_96 rfl hx1 h60 (fun c68 => ?_) (fun c69 => ?_)
        · have h70 := h66.1 c68
          refine r_iconst dX0_layNeighbours_108 ?_
          obtain ⟨h71, h72⟩ := h70
          refine r_iastore dX0_layNeighbours_109 (zB_l1 hc0 hn) (zB_s1 hc0) h71.1 h71.2 ?_
          have k73 := zok_i (i := ((4 * y1) + 3).toNat) (x := (-1)) k67 (zB_s1 hc0) (r32c rfl)
          exact r_return dX0_layNeighbours_110 rfl ⟨k73, rfl, h72⟩
        · have h74 := h66.2 c69
          refine r_iload_n dX0_layNeighbours_99 rfl ?_
          refine r_aload_n dX0_layNeighbours_100 rfl ?_
          refine r_getI dX0_layNeighbours_101 kf_RX0_35 (zB_lt hc0 hn) (zB_s hc0) (Or.inl rfl) ((gI_c (by omega)).trans ((gI_c (by omega)).trans (gI_c (by omega)))) ?_
          refine r_iadd dX0_layNeighbours_104 ?_
          refine r_goto (t := 109) dX0_layNeighbours_105 rfl ?_
          obtain ⟨h75, h76⟩ := h74
          obtain ⟨h78, h79⟩ := h76
          refine r_iastore dX0_layNeighbours_109 (zB_l1 hc0 hn) (zB_s1 hc0) h75.1 h75.2 ?_
          have k77 := zok_i (i := ((4 * y1) + 3).toNat) (x := y1 + (gI σ o0 7)) k67 (zB_s1 hc0) h78
          exact r_return dX0_layNeighbours_110 rfl ⟨k77, rfl, h79⟩
      · have h80 := h61.2 c63
        refine r_iload_n dX0_layNeighbours_73 rfl ?_
        refine r_iconst dX0_layNeighbours_74 ?_
        refine r_iadd dX0_layNeighbours_75 ?_
        refine r_goto (t := 80) dX0_layNeighbours_76 rfl ?_
        obtain ⟨h81, h82⟩ := h80
        obtain ⟨h84, h85⟩ := h82
        refine r_iastore dX0_layNeighbours_80 (zB_l1 hc0 hn) (zB_s1 hc0) h81.1 h81.2 ?_
        have k83 := zok_i (i := ((4 * y1) + 2).toNat) (x := y1 + 1) k57 (zB_s1 hc0) h84
        refine r_aload_n dX0_layNeighbours_81 rfl ?_
        refine r_getP (a := (o0 + 2)) dX0_layNeighbours_82 kf_RX0_15 (zB_lt hc0 hn) (zB_s hc0) rfl (k83.1 _ _ _ (zB_lt hc0 hn) (zB_p1 hc0)) ?_
        refine r_iload dX0_layNeighbours_85 rfl ?_
        refine r_iconst dX0_layNeighbours_87 ?_
        refine r_iadd dX0_layNeighbours_88 ?_
        refine r_iload_n dX0_layNeighbours_89 rfl ?_
        refine r_aload_n dX0_layNeighbours_90 rfl ?_
        refine r_getI dX0_layNeighbours_91 kf_RX0_35 (zB_lt hc0 hn) (zB_s hc0) (Or.inl rfl) ((gI_c (by omega)).trans ((gI_c (by omega)).trans (gI_c (by omega)))) ?_
        refine r_iconst dX0_layNeighbours_94 ?_
        refine r_isub dX0_layNeighbours_95 ?_
        refine r_icmp_ge (t := 108) dX0_layNeighbours_96 rfl hx1 h60 (fun c86 => ?_) (fun c87 => ?_)
        · have h88 := h85.1 c86
          refine r_iconst dX0_layNeighbours_108 ?_
          obtain ⟨h89, h90⟩ := h88
          refine r_iastore dX0_layNeighbours_109 (zB_l1 hc0 hn) (zB_s1 hc0) h89.1 h89.2 ?_
          have k91 := zok_i (i := ((4 * y1) + 3).toNat) (x := (-1)) k83 (zB_s1 hc0) (r32c rfl)
          exact r_return dX0_layNeighbours_110 rfl ⟨k91, rfl, h90⟩
        · have h92 := h85.2 c87
          refine r_iload_n dX0_layNeighbours_99 rfl ?_
          refine r_aload_n dX0_layNeighbours_100 rfl ?_
          refine r_getI dX0_layNeighbours_101 kf_RX0_35 (zB_lt hc0 hn) (zB_s hc0) (Or.inl rfl) ((gI_c (by omega)).trans ((gI_c (by omega)).trans (gI_c (by omega)))) ?_
          refine r_iadd dX0_layNeighbours_104 ?_
          refine r_goto (t := 109) dX0_layNeighbours_105 rfl ?_
          obtain ⟨h93, h94⟩ := h92
          obtain ⟨h96, h97⟩ := h94
          refine r_iastore dX0_layNeighbours_109 (zB_l1 hc0 hn) (zB_s1 hc0) h93.1 h93.2 ?_
          have k95 := zok_i (i := ((4 * y1) + 3).toNat) (x := y1 + (gI σ o0 7)) k83 (zB_s1 hc0) h96
          exact r_return dX0_layNeighbours_110 rfl ⟨k95, rfl, h97⟩
  · have h98 := h3.2 c5
    refine r_iload_n dX0_layNeighbours_24 rfl ?_
    refine r_aload_n dX0_layNeighbours_25 rfl ?_
    refine r_getI dX0_layNeighbours_26 kf_RX0_35 (zB_lt hc0 hn) (zB_s hc0) (Or.inl rfl) rfl ?_
    refine r_isub dX0_layNeighbours_29 ?_
    refine r_goto (t := 34) dX0_layNeighbours_30 rfl ?_
    obtain ⟨h99, h100⟩ := h98
    obtain ⟨h102, h103⟩ := h100
    refine r_iastore dX0_layNeighbours_34 (zB_l1 hc0 hn) (zB_s1 hc0) h99.1 h99.2 ?_
    have k101 := zok_i (i := (4 * y1).toNat) (x := y1 - (gI σ o0 7)) k0 (zB_s1 hc0) h102
    refine r_aload_n dX0_layNeighbours_35 rfl ?_
    refine r_getP (a := (o0 + 2)) dX0_layNeighbours_36 kf_RX0_15 (zB_lt hc0 hn) (zB_s hc0) rfl (k101.1 _ _ _ (zB_lt hc0 hn) (zB_p1 hc0)) ?_
    refine r_iload dX0_layNeighbours_39 rfl ?_
    refine r_iconst dX0_layNeighbours_41 ?_
    refine r_iadd dX0_layNeighbours_42 ?_
    refine r_iload_n dX0_layNeighbours_43 rfl ?_
    refine r_if_le (t := 53) dX0_layNeighbours_44 rfl hx2  (fun c104 => ?_) (fun c105 => ?_)
    · have h106 := h103.1 c104
      refine r_iconst dX0_layNeighbours_53 ?_
      obtain ⟨h107, h108⟩ := h106
      refine r_iastore dX0_layNeighbours_54 (zB_l1 hc0 hn) (zB_s1 hc0) h107.1 h107.2 ?_
      have k109 := zok_i (i := ((4 * y1) + 1).toNat) (x := (-1)) k101 (zB_s1 hc0) (r32c rfl)
      refine r_aload_n dX0_layNeighbours_55 rfl ?_
      refine r_getP (a := (o0 + 2)) dX0_layNeighbours_56 kf_RX0_15 (zB_lt hc0 hn) (zB_s hc0) rfl (k109.1 _ _ _ (zB_lt hc0 hn) (zB_p1 hc0)) ?_
      refine r_iload dX0_layNeighbours_59 rfl ?_
      refine r_iconst dX0_layNeighbours_61 ?_
      refine r_iadd dX0_layNeighbours_62 ?_
      refine r_iload_n dX0_layNeighbours_63 rfl ?_
      refine r_aload_n dX0_layNeighbours_64 rfl ?_
      refine r_getI dX0_layNeighbours_65 kf_RX0_35 (zB_lt hc0 hn) (zB_s hc0) (Or.inl rfl) ((gI_c (by omega)).trans (gI_c (by omega))) ?_
      refine r_iconst dX0_layNeighbours_68 ?_
      refine r_isub dX0_layNeighbours_69 ?_
      obtain ⟨h110, h111⟩ := h108
      refine r_icmp_ge (t := 79) dX0_layNeighbours_70 rfl hx2 h110 (fun c112 => ?_) (fun c113 => ?_)
      · have h114 := h111.1 c112
        refine r_iconst dX0_layNeighbours_79 ?_
        obtain ⟨h115, h116⟩ := h114
        refine r_iastore dX0_layNeighbours_80 (zB_l1 hc0 hn) (zB_s1 hc0) h115.1 h115.2 ?_
        have k117 := zok_i (i := ((4 * y1) + 2).toNat) (x := (-1)) k109 (zB_s1 hc0) (r32c rfl)
        refine r_aload_n dX0_layNeighbours_81 rfl ?_
        refine r_getP (a := (o0 + 2)) dX0_layNeighbours_82 kf_RX0_15 (zB_lt hc0 hn) (zB_s hc0) rfl (k117.1 _ _ _ (zB_lt hc0 hn) (zB_p1 hc0)) ?_
        refine r_iload dX0_layNeighbours_85 rfl ?_
        refine r_iconst dX0_layNeighbours_87 ?_
        refine r_iadd dX0_layNeighbours_88 ?_
        refine r_iload_n dX0_layNeighbours_89 rfl ?_
        refine r_aload_n dX0_layNeighbours_90 rfl ?_
        refine r_getI dX0_layNeighbours_91 kf_RX0_35 (zB_lt hc0 hn) (zB_s hc0) (Or.inl rfl) ((gI_c (by omega)).trans ((gI_c (by omega)).trans (gI_c (by omega)))) ?_
        refine r_iconst dX0_layNeighbours_94 ?_
        refine r_isub dX0_layNeighbours_95 ?_
        refine r_icmp_ge (t := 108) dX0_layNeighbours_96 rfl hx1 h110 (fun c118 => ?_) (fun c119 => ?_)
        · have h120 := h116.1 c118
          refine r_iconst dX0_layNeighbours_108 ?_
          obtain ⟨h121, h122⟩ := h120
          refine r_iastore dX0_layNeighbours_109 (zB_l1 hc0 hn) (zB_s1 hc0) h121.1 h121.2 ?_
          have k123 := zok_i (i := ((4 * y1) + 3).toNat) (x := (-1)) k117 (zB_s1 hc0) (r32c rfl)
          exact r_return dX0_layNeighbours_110 rfl ⟨k123, rfl, h122⟩
        · have h124 := h116.2 c119
          refine r_iload_n dX0_layNeighbours_99 rfl ?_
          refine r_aload_n dX0_layNeighbours_100 rfl ?_
          refine r_getI dX0_layNeighbours_101 kf_RX0_35 (zB_lt hc0 hn) (zB_s hc0) (Or.inl rfl) ((gI_c (by omega)).trans ((gI_c (by omega)).trans (gI_c (by omega)))) ?_
          refine r_iadd dX0_layNeighbours_104 ?_
          refine r_goto (t := 109) dX0_layNeighbours_105 rfl ?_
          obtain ⟨h125, h126⟩ := h124
          obtain ⟨h128, h129⟩ := h126
          refine r_iastore dX0_layNeighbours_109 (zB_l1 hc0 hn) (zB_s1 hc0) h125.1 h125.2 ?_
          have k127 := zok_i (i := ((4 * y1) + 3).toNat) (x := y1 + (gI σ o0 7)) k117 (zB_s1 hc0) h128
          exact r_return dX0_layNeighbours_110 rfl ⟨k127, rfl, h129⟩
      · have h130 := h111.2 c113
        refine r_iload_n dX0_layNeighbours_73 rfl ?_
        refine r_iconst dX0_layNeighbours_74 ?_
        refine r_iadd dX0_layNeighbours_75 ?_
        refine r_goto (t := 80) dX0_layNeighbours_76 rfl ?_
        obtain ⟨h131, h132⟩ := h130
        obtain ⟨h134, h135⟩ := h132
        refine r_iastore dX0_layNeighbours_80 (zB_l1 hc0 hn) (zB_s1 hc0) h131.1 h131.2 ?_
        have k133 := zok_i (i := ((4 * y1) + 2).toNat) (x := y1 + 1) k109 (zB_s1 hc0) h134
        refine r_aload_n dX0_layNeighbours_81 rfl ?_
        refine r_getP (a := (o0 + 2)) dX0_layNeighbours_82 kf_RX0_15 (zB_lt hc0 hn) (zB_s hc0) rfl (k133.1 _ _ _ (zB_lt hc0 hn) (zB_p1 hc0)) ?_
        refine r_iload dX0_layNeighbours_85 rfl ?_
        refine r_iconst dX0_layNeighbours_87 ?_
        refine r_iadd dX0_layNeighbours_88 ?_
        refine r_iload_n dX0_layNeighbours_89 rfl ?_
        refine r_aload_n dX0_layNeighbours_90 rfl ?_
        refine r_getI dX0_layNeighbours_91 kf_RX0_35 (zB_lt hc0 hn) (zB_s hc0) (Or.inl rfl) ((gI_c (by omega)).trans ((gI_c (by omega)).trans (gI_c (by omega)))) ?_
        refine r_iconst dX0_layNeighbours_94 ?_
        refine r_isub dX0_layNeighbours_95 ?_
        refine r_icmp_ge (t := 108) dX0_layNeighbours_96 rfl hx1 h110 (fun c136 => ?_) (fun c137 => ?_)
        · have h138 := h135.1 c136
          refine r_iconst dX0_layNeighbours_108 ?_
          obtain ⟨h139, h140⟩ := h138
          refine r_iastore dX0_layNeighbours_109 (zB_l1 hc0 hn) (zB_s1 hc0) h139.1 h139.2 ?_
          have k141 := zok_i (i := ((4 * y1) + 3).toNat) (x := (-1)) k133 (zB_s1 hc0) (r32c rfl)
          exact r_return dX0_layNeighbours_110 rfl ⟨k141, rfl, h140⟩
        · have h142 := h135.2 c137
          refine r_iload_n dX0_layNeighbours_99 rfl ?_
          refine r_aload_n dX0_layNeighbours_100 rfl ?_
          refine r_getI dX0_layNeighbours_101 kf_RX0_35 (zB_lt hc0 hn) (zB_s hc0) (Or.inl rfl) ((gI_c (by omega)).trans ((gI_c (by omega)).trans (gI_c (by omega)))) ?_
          refine r_iadd dX0_layNeighbours_104 ?_
          refine r_goto (t := 109) dX0_layNeighbours_105 rfl ?_
          obtain ⟨h143, h144⟩ := h142
          obtain ⟨h146, h147⟩ := h144
          refine r_iastore dX0_layNeighbours_109 (zB_l1 hc0 hn) (zB_s1 hc0) h143.1 h143.2 ?_
          have k145 := zok_i (i := ((4 * y1) + 3).toNat) (x := y1 + (gI σ o0 7)) k133 (zB_s1 hc0) h146
          exact r_return dX0_layNeighbours_110 rfl ⟨k145, rfl, h147⟩
    · have h148 := h103.2 c105
      refine r_iload_n dX0_layNeighbours_47 rfl ?_
      refine r_iconst dX0_layNeighbours_48 ?_
      refine r_isub dX0_layNeighbours_49 ?_
      refine r_goto (t := 54) dX0_layNeighbours_50 rfl ?_
      obtain ⟨h149, h150⟩ := h148
      obtain ⟨h152, h153⟩ := h150
      refine r_iastore dX0_layNeighbours_54 (zB_l1 hc0 hn) (zB_s1 hc0) h149.1 h149.2 ?_
      have k151 := zok_i (i := ((4 * y1) + 1).toNat) (x := y1 - 1) k101 (zB_s1 hc0) h152
      refine r_aload_n dX0_layNeighbours_55 rfl ?_
      refine r_getP (a := (o0 + 2)) dX0_layNeighbours_56 kf_RX0_15 (zB_lt hc0 hn) (zB_s hc0) rfl (k151.1 _ _ _ (zB_lt hc0 hn) (zB_p1 hc0)) ?_
      refine r_iload dX0_layNeighbours_59 rfl ?_
      refine r_iconst dX0_layNeighbours_61 ?_
      refine r_iadd dX0_layNeighbours_62 ?_
      refine r_iload_n dX0_layNeighbours_63 rfl ?_
      refine r_aload_n dX0_layNeighbours_64 rfl ?_
      refine r_getI dX0_layNeighbours_65 kf_RX0_35 (zB_lt hc0 hn) (zB_s hc0) (Or.inl rfl) ((gI_c (by omega)).trans (gI_c (by omega))) ?_
      refine r_iconst dX0_layNeighbours_68 ?_
      refine r_isub dX0_layNeighbours_69 ?_
      obtain ⟨h154, h155⟩ := h153
      refine r_icmp_ge (t := 79) dX0_layNeighbours_70 rfl hx2 h154 (fun c156 => ?_) (fun c157 => ?_)
      · have h158 := h155.1 c156
        refine r_iconst dX0_layNeighbours_79 ?_
        obtain ⟨h159, h160⟩ := h158
        refine r_iastore dX0_layNeighbours_80 (zB_l1 hc0 hn) (zB_s1 hc0) h159.1 h159.2 ?_
        have k161 := zok_i (i := ((4 * y1) + 2).toNat) (x := (-1)) k151 (zB_s1 hc0) (r32c rfl)
        refine r_aload_n dX0_layNeighbours_81 rfl ?_
        refine r_getP (a := (o0 + 2)) dX0_layNeighbours_82 kf_RX0_15 (zB_lt hc0 hn) (zB_s hc0) rfl (k161.1 _ _ _ (zB_lt hc0 hn) (zB_p1 hc0)) ?_
        refine r_iload dX0_layNeighbours_85 rfl ?_
        refine r_iconst dX0_layNeighbours_87 ?_
        refine r_iadd dX0_layNeighbours_88 ?_
        refine r_iload_n dX0_layNeighbours_89 rfl ?_
        refine r_aload_n dX0_layNeighbours_90 rfl ?_
        refine r_getI dX0_layNeighbours_91 kf_RX0_35 (zB_lt hc0 hn) (zB_s hc0) (Or.inl rfl) ((gI_c (by omega)).trans ((gI_c (by omega)).trans (gI_c (by omega)))) ?_
        refine r_iconst dX0_layNeighbours_94 ?_
        refine r_isub dX0_layNeighbours_95 ?_
        refine r_icmp_ge (t := 108) dX0_layNeighbours_96 rfl hx1 h154 (fun c162 => ?_) (fun c163 => ?_)
        · have h164 := h160.1 c162
          refine r_iconst dX0_layNeighbours_108 ?_
          obtain ⟨h165, h166⟩ := h164
          refine r_iastore dX0_layNeighbours_109 (zB_l1 hc0 hn) (zB_s1 hc0) h165.1 h165.2 ?_
          have k167 := zok_i (i := ((4 * y1) + 3).toNat) (x := (-1)) k161 (zB_s1 hc0) (r32c rfl)
          exact r_return dX0_layNeighbours_110 rfl ⟨k167, rfl, h166⟩
        · have h168 := h160.2 c163
          refine r_iload_n dX0_layNeighbours_99 rfl ?_
          refine r_aload_n dX0_layNeighbours_100 rfl ?_
          refine r_getI dX0_layNeighbours_101 kf_RX0_35 (zB_lt hc0 hn) (zB_s hc0) (Or.inl rfl) ((gI_c (by omega)).trans ((gI_c (by omega)).trans (gI_c (by omega)))) ?_
          refine r_iadd dX0_layNeighbours_104 ?_
          refine r_goto (t := 109) dX0_layNeighbours_105 rfl ?_
          obtain ⟨h169, h170⟩ := h168
          obtain ⟨h172, h173⟩ := h170
          refine r_iastore dX0_layNeighbours_109 (zB_l1 hc0 hn) (zB_s1 hc0) h169.1 h169.2 ?_
          have k171 := zok_i (i := ((4 * y1) + 3).toNat) (x := y1 + (gI σ o0 7)) k161 (zB_s1 hc0) h172
          exact r_return dX0_layNeighbours_110 rfl ⟨k171, rfl, h173⟩
      · have h174 := h155.2 c157
        refine r_iload_n dX0_layNeighbours_73 rfl ?_
        refine r_iconst dX0_layNeighbours_74 ?_
        refine r_iadd dX0_layNeighbours_75 ?_
        refine r_goto (t := 80) dX0_layNeighbours_76 rfl ?_
        obtain ⟨h175, h176⟩ := h174
        obtain ⟨h178, h179⟩ := h176
        refine r_iastore dX0_layNeighbours_80 (zB_l1 hc0 hn) (zB_s1 hc0) h175.1 h175.2 ?_
        have k177 := zok_i (i := ((4 * y1) + 2).toNat) (x := y1 + 1) k151 (zB_s1 hc0) h178
        refine r_aload_n dX0_layNeighbours_81 rfl ?_
        refine r_getP (a := (o0 + 2)) dX0_layNeighbours_82 kf_RX0_15 (zB_lt hc0 hn) (zB_s hc0) rfl (k177.1 _ _ _ (zB_lt hc0 hn) (zB_p1 hc0)) ?_
        refine r_iload dX0_layNeighbours_85 rfl ?_
        refine r_iconst dX0_layNeighbours_87 ?_
        refine r_iadd dX0_layNeighbours_88 ?_
        refine r_iload_n dX0_layNeighbours_89 rfl ?_
        refine r_aload_n dX0_layNeighbours_90 rfl ?_
        refine r_getI dX0_layNeighbours_91 kf_RX0_35 (zB_lt hc0 hn) (zB_s hc0) (Or.inl rfl) ((gI_c (by omega)).trans ((gI_c (by omega)).trans (gI_c (by omega)))) ?_
        refine r_iconst dX0_layNeighbours_94 ?_
        refine r_isub dX0_layNeighbours_95 ?_
        refine r_icmp_ge (t := 108) dX0_layNeighbours_96 rfl hx1 h154 (fun c180 => ?_) (fun c181 => ?_)
        · have h182 := h179.1 c180
          refine r_iconst dX0_layNeighbours_108 ?_
          obtain ⟨h183, h184⟩ := h182
          refine r_iastore dX0_layNeighbours_109 (zB_l1 hc0 hn) (zB_s1 hc0) h183.1 h183.2 ?_
          have k185 := zok_i (i := ((4 * y1) + 3).toNat) (x := (-1)) k177 (zB_s1 hc0) (r32c rfl)
          exact r_return dX0_layNeighbours_110 rfl ⟨k185, rfl, h184⟩
        · have h186 := h179.2 c181
          refine r_iload_n dX0_layNeighbours_99 rfl ?_
          refine r_aload_n dX0_layNeighbours_100 rfl ?_
          refine r_getI dX0_layNeighbours_101 kf_RX0_35 (zB_lt hc0 hn) (zB_s hc0) (Or.inl rfl) ((gI_c (by omega)).trans ((gI_c (by omega)).trans (gI_c (by omega)))) ?_
          refine r_iadd dX0_layNeighbours_104 ?_
          refine r_goto (t := 109) dX0_layNeighbours_105 rfl ?_
          obtain ⟨h187, h188⟩ := h186
          obtain ⟨h190, h191⟩ := h188
          refine r_iastore dX0_layNeighbours_109 (zB_l1 hc0 hn) (zB_s1 hc0) h187.1 h187.2 ?_
          have k189 := zok_i (i := ((4 * y1) + 3).toNat) (x := y1 + (gI σ o0 7)) k177 (zB_s1 hc0) h190
          exact r_return dX0_layNeighbours_110 rfl ⟨k189, rfl, h191⟩
/-! StoneRoom$Board.copyOf -/
theorem dX0_copyOf_0 : decode M_X0_copyOf.2.1 0 = .ok (.aload_n 0, 1) := by decide +kernel
theorem dX0_copyOf_1 : decode M_X0_copyOf.2.1 1 = .ok (.aload_n 1, 1) := by decide +kernel
theorem dX0_copyOf_2 : decode M_X0_copyOf.2.1 2 = .ok (.getfield 35, 3) := by decide +kernel
theorem dX0_copyOf_5 : decode M_X0_copyOf.2.1 5 = .ok (.invokevirtual 68, 3) := by decide +kernel
theorem dX0_copyOf_8 : decode M_X0_copyOf.2.1 8 = .ok (.aload_n 1, 1) := by decide +kernel
theorem dX0_copyOf_9 : decode M_X0_copyOf.2.1 9 = .ok (.getfield 9, 3) := by decide +kernel
theorem dX0_copyOf_12 : decode M_X0_copyOf.2.1 12 = .ok (.iconst 0, 1) := by decide +kernel
theorem dX0_copyOf_13 : decode M_X0_copyOf.2.1 13 = .ok (.aload_n 0, 1) := by decide +kernel
theorem dX0_copyOf_14 : decode M_X0_copyOf.2.1 14 = .ok (.getfield 9, 3) := by decide +kernel
theorem dX0_copyOf_17 : decode M_X0_copyOf.2.1 17 = .ok (.iconst 0, 1) := by decide +kernel
theorem dX0_copyOf_18 : decode M_X0_copyOf.2.1 18 = .ok (.bipush 81, 2) := by decide +kernel
theorem dX0_copyOf_20 : decode M_X0_copyOf.2.1 20 = .ok (.invokestatic 72, 3) := by decide +kernel
theorem dX0_copyOf_23 : decode M_X0_copyOf.2.1 23 = .ok (.return_, 1) := by decide +kernel
theorem w_X0_copyOf {X : ZX} {d n : Nat} {P : ZSto → Prop} {o0 : Nat} {o1 : Nat} {σ : ZSto} (hn : 73 ≤ n) (hc0 : zIsB o0) (hc1 : zIsB o1) 
    (h : ZkV X M_X0_shape d n [.ref (zB X + o0), iV (gI σ o1 7)] σ (fun σ2 => P (cpI σ2 (o1 + 1) (o0 + 1) 0 0 81))) :
    ZkV X M_X0_copyOf (d + 1) n [.ref (zB X + o0), .ref (zB X + o1)] σ P := by
  refine zk_of (ls := [some (.ref (zB X + o0)), some (.ref (zB X + o1))]) pl_RX0 (Nat.le_of_ble_eq_true rfl) rfl (fun k0 => ?_)
  unfold Zn
  refine r_aload_n dX0_copyOf_0 rfl ?_
  refine r_aload_n dX0_copyOf_1 rfl ?_
  refine r_getI dX0_copyOf_2 kf_RX0_35 (zB_lt hc1 hn) (zB_s hc1) (Or.inl rfl) rfl ?_
  refine n_callV (N := M_X0_shape) (As := [iV (gI σ o1 7)]) (st := []) dX0_copyOf_5 mk_X0_shape km_RX0_68 kd_X0_shape rfl (zB_lt hc0 hn) (zB_s hc0) (q := (RX0, TX0, 13)) rfl rfl (zFits_rm d n n n (Nat.le_refl n)) (Nat.le_of_ble_eq_true rfl) rfl k0 h ?_
  rintro _ σ2 k3 ⟨rfl, h5⟩
  change Zm _ _ _ _ _ _ 8 _ [] _
  refine r_aload_n dX0_copyOf_8 rfl ?_
  refine r_getP (a := (o1 + 1)) dX0_copyOf_9 kf_RX0_9 (zB_lt hc1 hn) (zB_s hc1) rfl (k3.1 _ _ _ (zB_lt hc1 hn) (zB_p0 hc1)) ?_
  refine r_iconst dX0_copyOf_12 ?_
  refine r_aload_n dX0_copyOf_13 rfl ?_
  refine r_getP (a := (o0 + 1)) dX0_copyOf_14 kf_RX0_9 (zB_lt hc0 hn) (zB_s hc0) rfl (k3.1 _ _ _ (zB_lt hc0 hn) (zB_p0 hc0)) ?_
  refine r_iconst dX0_copyOf_17 ?_
  refine r_bipush dX0_copyOf_18 rfl ?_
  refine r_copyB dX0_copyOf_20 kw_RX0_arraycopy (zB_l0 hc1 hn) (zB_s0 hc1) (zB_l0 hc0 hn) (zB_s0 hc0) (by decide) (zFits_rm d n n n (Nat.le_refl n)) (Nat.le_of_ble_eq_true rfl) k3 ?_
  have k6 := zok_cpI (sp := 0) (dp := 0) (m := 81) k3 (zB_s0 hc1) (zB_s0 hc0)
  exact r_return dX0_copyOf_23 rfl ⟨k6, rfl, h5⟩
/-! StoneRoom$Board.pack -/
theorem dX0_pack_0 : decode M_X0_pack.2.1 0 = .ok (.aload_n 0, 1) := by decide +kernel
theorem dX0_pack_1 : decode M_X0_pack.2.1 1 = .ok (.aload_n 0, 1) := by decide +kernel
theorem dX0_pack_2 : decode M_X0_pack.2.1 2 = .ok (.getfield 31, 3) := by decide +kernel
theorem dX0_pack_5 : decode M_X0_pack.2.1 5 = .ok (.iconst 0, 1) := by decide +kernel
theorem dX0_pack_6 : decode M_X0_pack.2.1 6 = .ok (.invokevirtual 78, 3) := by decide +kernel
theorem dX0_pack_9 : decode M_X0_pack.2.1 9 = .ok (.return_, 1) := by decide +kernel
theorem w_X0_pack {X : ZX} {d n : Nat} {P : ZSto → Prop} {o0 : Nat} {σ : ZSto} (hn : 73 ≤ n) (hc0 : zIsB o0) 
    (h : ZkV X M_X0_store d n [.ref (zB X + o0), .ref (zB X + (o0 + 7)), iV 0] σ (fun σ2 => P σ2)) :
    ZkV X M_X0_pack (d + 1) n [.ref (zB X + o0)] σ P := by
  refine zk_of (ls := [some (.ref (zB X + o0))]) pl_RX0 (Nat.le_of_ble_eq_true rfl) rfl (fun k0 => ?_)
  unfold Zn
  refine r_aload_n dX0_pack_0 rfl ?_
  refine r_aload_n dX0_pack_1 rfl ?_
  refine r_getP (a := (o0 + 7)) dX0_pack_2 kf_RX0_31 (zB_lt hc0 hn) (zB_s hc0) rfl (k0.1 _ _ _ (zB_lt hc0 hn) (zB_p6 hc0)) ?_
  refine r_iconst dX0_pack_5 ?_
  refine n_callV (N := M_X0_store) (As := [.ref (zB X + (o0 + 7)), iV 0]) (st := []) dX0_pack_6 mk_X0_store km_RX0_78 kd_X0_store rfl (zB_lt hc0 hn) (zB_s hc0) (q := (RX0, TX0, 13)) rfl rfl (zFits_rm d n n n (Nat.le_refl n)) (Nat.le_of_ble_eq_true rfl) rfl k0 h ?_
  rintro _ σ2 k3 ⟨rfl, h5⟩
  change Zm _ _ _ _ _ _ 9 _ [] _
  exact r_return dX0_pack_9 rfl ⟨k3, rfl, h5⟩
/-! StoneRoom$Board.store -/
theorem dX0_store_0 : decode M_X0_store.2.1 0 = .ok (.iload_n 2, 1) := by decide +kernel
theorem dX0_store_1 : decode M_X0_store.2.1 1 = .ok (.ifCond .lt 11, 3) := by decide +kernel
theorem dX0_store_4 : decode M_X0_store.2.1 4 = .ok (.iload_n 2, 1) := by decide +kernel
theorem dX0_store_5 : decode M_X0_store.2.1 5 = .ok (.iconst 3, 1) := by decide +kernel
theorem dX0_store_6 : decode M_X0_store.2.1 6 = .ok (.iadd, 1) := by decide +kernel
theorem dX0_store_7 : decode M_X0_store.2.1 7 = .ok (.aload_n 1, 1) := by decide +kernel
theorem dX0_store_8 : decode M_X0_store.2.1 8 = .ok (.arraylength, 1) := by decide +kernel
theorem dX0_store_9 : decode M_X0_store.2.1 9 = .ok (.if_icmp .le 4, 3) := by decide +kernel
theorem dX0_store_12 : decode M_X0_store.2.1 12 = .ok (.return_, 1) := by decide +kernel
theorem dX0_store_13 : decode M_X0_store.2.1 13 = .ok (.iconst 0, 1) := by decide +kernel
theorem dX0_store_14 : decode M_X0_store.2.1 14 = .ok (.istore_n 3, 1) := by decide +kernel
theorem dX0_store_15 : decode M_X0_store.2.1 15 = .ok (.iload_n 3, 1) := by decide +kernel
theorem dX0_store_16 : decode M_X0_store.2.1 16 = .ok (.iconst 3, 1) := by decide +kernel
theorem dX0_store_17 : decode M_X0_store.2.1 17 = .ok (.if_icmp .ge 73, 3) := by decide +kernel
theorem dX0_store_20 : decode M_X0_store.2.1 20 = .ok (.lconst 0, 1) := by decide +kernel
theorem dX0_store_21 : decode M_X0_store.2.1 21 = .ok (.lstore 4, 2) := by decide +kernel
theorem dX0_store_23 : decode M_X0_store.2.1 23 = .ok (.bipush 32, 2) := by decide +kernel
theorem dX0_store_25 : decode M_X0_store.2.1 25 = .ok (.iload_n 3, 1) := by decide +kernel
theorem dX0_store_26 : decode M_X0_store.2.1 26 = .ok (.imul, 1) := by decide +kernel
theorem dX0_store_27 : decode M_X0_store.2.1 27 = .ok (.istore 6, 2) := by decide +kernel
theorem dX0_store_29 : decode M_X0_store.2.1 29 = .ok (.iload 6, 2) := by decide +kernel
theorem dX0_store_31 : decode M_X0_store.2.1 31 = .ok (.bipush 32, 2) := by decide +kernel
theorem dX0_store_33 : decode M_X0_store.2.1 33 = .ok (.iload_n 3, 1) := by decide +kernel
theorem dX0_store_34 : decode M_X0_store.2.1 34 = .ok (.imul, 1) := by decide +kernel
theorem dX0_store_35 : decode M_X0_store.2.1 35 = .ok (.bipush 32, 2) := by decide +kernel
theorem dX0_store_37 : decode M_X0_store.2.1 37 = .ok (.iadd, 1) := by decide +kernel
theorem dX0_store_38 : decode M_X0_store.2.1 38 = .ok (.if_icmp .ge 39, 3) := by decide +kernel
theorem dX0_store_41 : decode M_X0_store.2.1 41 = .ok (.iload 6, 2) := by decide +kernel
theorem dX0_store_43 : decode M_X0_store.2.1 43 = .ok (.aload_n 0, 1) := by decide +kernel
theorem dX0_store_44 : decode M_X0_store.2.1 44 = .ok (.getfield 39, 3) := by decide +kernel
theorem dX0_store_47 : decode M_X0_store.2.1 47 = .ok (.if_icmp .ge 30, 3) := by decide +kernel
theorem dX0_store_50 : decode M_X0_store.2.1 50 = .ok (.lload 4, 2) := by decide +kernel
theorem dX0_store_52 : decode M_X0_store.2.1 52 = .ok (.aload_n 0, 1) := by decide +kernel
theorem dX0_store_53 : decode M_X0_store.2.1 53 = .ok (.getfield 9, 3) := by decide +kernel
theorem dX0_store_56 : decode M_X0_store.2.1 56 = .ok (.iload 6, 2) := by decide +kernel
theorem dX0_store_58 : decode M_X0_store.2.1 58 = .ok (.baload, 1) := by decide +kernel
theorem dX0_store_59 : decode M_X0_store.2.1 59 = .ok (.i2l, 1) := by decide +kernel
theorem dX0_store_60 : decode M_X0_store.2.1 60 = .ok (.iconst 2, 1) := by decide +kernel
theorem dX0_store_61 : decode M_X0_store.2.1 61 = .ok (.iload 6, 2) := by decide +kernel
theorem dX0_store_63 : decode M_X0_store.2.1 63 = .ok (.bipush 31, 2) := by decide +kernel
theorem dX0_store_65 : decode M_X0_store.2.1 65 = .ok (.iand, 1) := by decide +kernel
theorem dX0_store_66 : decode M_X0_store.2.1 66 = .ok (.imul, 1) := by decide +kernel
theorem dX0_store_67 : decode M_X0_store.2.1 67 = .ok (.lshl, 1) := by decide +kernel
theorem dX0_store_68 : decode M_X0_store.2.1 68 = .ok (.lor, 1) := by decide +kernel
theorem dX0_store_69 : decode M_X0_store.2.1 69 = .ok (.lstore 4, 2) := by decide +kernel
theorem dX0_store_71 : decode M_X0_store.2.1 71 = .ok (.iinc 6 1, 3) := by decide +kernel
theorem dX0_store_74 : decode M_X0_store.2.1 74 = .ok (.goto (-45), 3) := by decide +kernel
theorem dX0_store_77 : decode M_X0_store.2.1 77 = .ok (.aload_n 1, 1) := by decide +kernel
theorem dX0_store_78 : decode M_X0_store.2.1 78 = .ok (.iload_n 2, 1) := by decide +kernel
theorem dX0_store_79 : decode M_X0_store.2.1 79 = .ok (.iload_n 3, 1) := by decide +kernel
theorem dX0_store_80 : decode M_X0_store.2.1 80 = .ok (.iadd, 1) := by decide +kernel
theorem dX0_store_81 : decode M_X0_store.2.1 81 = .ok (.lload 4, 2) := by decide +kernel
theorem dX0_store_83 : decode M_X0_store.2.1 83 = .ok (.lastore, 1) := by decide +kernel
theorem dX0_store_84 : decode M_X0_store.2.1 84 = .ok (.iinc 3 1, 3) := by decide +kernel
theorem dX0_store_87 : decode M_X0_store.2.1 87 = .ok (.goto (-72), 3) := by decide +kernel
theorem dX0_store_90 : decode M_X0_store.2.1 90 = .ok (.return_, 1) := by decide +kernel
def L_X0_store_15 (X : ZX) (d n : Nat) (P : Option Value → ZSto → Prop) (o0 : Nat) (a1 : Nat) (z1 : Nat) (x2 : Int) (x3 : Int) (σ : ZSto) : Prop := R32 x2 → R32 x3 → ZOk n σ → Zn X M_X0_store d n P 15 [some (.ref (zB X + o0)), some (.ref (zB X + a1)), some (iV x2), some (iV x3), none, none, none] [] σ
def L_X0_store_29 (X : ZX) (d n : Nat) (P : Option Value → ZSto → Prop) (o0 : Nat) (a1 : Nat) (z1 : Nat) (x2 : Int) (x3 : Int) (l4 : Int64) (x6 : Int) (σ : ZSto) : Prop := R32 x2 → R32 x3 → R32 x6 → ZOk n σ → Zn X M_X0_store d n P 29 [some (.ref (zB X + o0)), some (.ref (zB X + a1)), some (iV x2), some (iV x3), some (.long l4), none, some (iV x6)] [] σ
theorem w_X0_store {X : ZX} {d n : Nat} {P : ZSto → Prop} {o0 : Nat} {a1 : Nat} {z1 : Nat} {x2 : Int} {σ : ZSto} (hn : 73 ≤ n) (hc0 : zIsB o0) (ha1 : a1 < n) (hs1 : SH a1 = some (.inl (.long, z1))) (hx2 : R32 x2)
    (h : (x2 < 0 → P σ) ∧ (¬ (x2 < 0) → R32 (x2 + 3) ∧ (x2 + 3 ≤ (z1 : Int) → L_X0_store_15 X d n (zpV P) o0 a1 z1 x2 0 σ) ∧ (¬ (x2 + 3 ≤ (z1 : Int)) → P σ))) :
    ZkV X M_X0_store (d + 1) n [.ref (zB X + o0), .ref (zB X + a1), iV x2] σ P := by
  refine zk_of (ls := [some (.ref (zB X + o0)), some (.ref (zB X + a1)), some (iV x2), none, none, none, none]) pl_RX0 (Nat.le_of_ble_eq_true rfl) rfl (fun k0 => ?_)
  unfold Zn
  refine r_iload_n dX0_store_0 rfl ?_
  refine r_if_lt (t := 12) dX0_store_1 rfl hx2  (fun c1 => ?_) (fun c2 => ?_)
  · have h3 := h.1 c1
    exact r_return dX0_store_12 rfl ⟨k0, rfl, h3⟩
  · have h4 := h.2 c2
    refine r_iload_n dX0_store_4 rfl ?_
    refine r_iconst dX0_store_5 ?_
    refine r_iadd dX0_store_6 ?_
    refine r_aload_n dX0_store_7 rfl ?_
    refine r_alen dX0_store_8 ha1 hs1 (Or.inr (Or.inr (Or.inr rfl))) ?_
    obtain ⟨h5, h6⟩ := h4
    refine r_icmp_le (t := 13) dX0_store_9 rfl h5 (r32_len hs1) (fun c7 => ?_) (fun c8 => ?_)
    · have h9 := h6.1 c7
      refine r_iconst dX0_store_13 ?_
      refine r_istore_n dX0_store_14 rfl rfl ?_
      exact r_mask [true, true, true, true, false, false, false] rfl (h9 hx2 (r32c rfl) k0)
    · have h10 := h6.2 c8
      exact r_return dX0_store_12 rfl ⟨k0, rfl, h10⟩
theorem b_X0_store_15 {X : ZX} {d n : Nat} {P : ZSto → Prop} {o0 : Nat} {a1 : Nat} {z1 : Nat} {x2 : Int} {x3 : Int} {σ : ZSto} (hn : 73 ≤ n) (hc0 : zIsB o0) (ha1 : a1 < n) (hs1 : SH a1 = some (.inl (.long, z1)))
    (h : (3 ≤ x3 → P σ) ∧ (¬ (3 ≤ x3) → R32 (32 * x3) ∧ L_X0_store_29 X d n (zpV P) o0 a1 z1 x2 x3 ((0 : Int64)) (32 * x3) σ)) :
    L_X0_store_15 X d n (zpV P) o0 a1 z1 x2 x3 σ := by
  intro hx2 hx3 k0
  unfold Zn
  refine r_iload_n dX0_store_15 rfl ?_
  refine r_iconst dX0_store_16 ?_
  refine r_icmp_ge (t := 90) dX0_store_17 rfl hx3 (r32c rfl) (fun c1 => ?_) (fun c2 => ?_)
  · have h3 := h.1 c1
    exact r_return dX0_store_90 rfl ⟨k0, rfl, h3⟩
  · have h4 := h.2 c2
    refine r_lconst (v := 0) dX0_store_20 rfl ?_
    refine r_lstore dX0_store_21 rfl rfl ?_
    refine r_bipush dX0_store_23 rfl ?_
    refine r_iload_n dX0_store_25 rfl ?_
    refine r_imul dX0_store_26 ?_
    refine r_istore dX0_store_27 rfl rfl ?_
    obtain ⟨h5, h6⟩ := h4
    exact r_mask [true, true, true, true, true, false, true] rfl (h6 hx2 hx3 h5 k0)
theorem b_X0_store_29 {X : ZX} {d n : Nat} {P : ZSto → Prop} {o0 : Nat} {a1 : Nat} {z1 : Nat} {x2 : Int} {x3 : Int} {l4 : Int64} {x6 : Int} {σ : ZSto} (hn : 73 ≤ n) (hc0 : zIsB o0) (ha1 : a1 < n) (hs1 : SH a1 = some (.inl (.long, z1)))
    (h : R32 ((32 * x3) + 32) ∧ ((32 * x3) + 32 ≤ x6 → (0 ≤ x2 + x3 ∧ x2 + x3 < z1) ∧ R32 (x3 + 1) ∧ L_X0_store_15 X d n (zpV P) o0 a1 z1 x2 (x3 + 1) (sL σ a1 ((x2 + x3).toNat) l4)) ∧ (¬ ((32 * x3) + 32 ≤ x6) → (gI σ o0 8 ≤ x6 → (0 ≤ x2 + x3 ∧ x2 + x3 < z1) ∧ R32 (x3 + 1) ∧ L_X0_store_15 X d n (zpV P) o0 a1 z1 x2 (x3 + 1) (sL σ a1 ((x2 + x3).toNat) l4)) ∧ (¬ (gI σ o0 8 ≤ x6) → (0 ≤ x6 ∧ x6 < 81) ∧ R32 (x6 + 1) ∧ L_X0_store_29 X d n (zpV P) o0 a1 z1 x2 x3 (l4 ||| (lshlF (i2lF (gI σ (o0 + 1) x6.toNat)) (2 * (andI x6 31)))) (x6 + 1) σ))) :
    L_X0_store_29 X d n (zpV P) o0 a1 z1 x2 x3 l4 x6 σ := by
  intro hx2 hx3 hx6 k0
  unfold Zn
  refine r_iload dX0_store_29 rfl ?_
  refine r_bipush dX0_store_31 rfl ?_
  refine r_iload_n dX0_store_33 rfl ?_
  refine r_imul dX0_store_34 ?_
  refine r_bipush dX0_store_35 rfl ?_
  refine r_iadd dX0_store_37 ?_
  obtain ⟨h1, h2⟩ := h
  refine r_icmp_ge (t := 77) dX0_store_38 rfl hx6 h1 (fun c3 => ?_) (fun c4 => ?_)
  · have h5 := h2.1 c3
    refine r_aload_n dX0_store_77 rfl ?_
    refine r_iload_n dX0_store_78 rfl ?_
    refine r_iload_n dX0_store_79 rfl ?_
    refine r_iadd dX0_store_80 ?_
    refine r_lload dX0_store_81 rfl ?_
    obtain ⟨h6, h7⟩ := h5
    refine r_lastore dX0_store_83 ha1 hs1 h6.1 h6.2 ?_
    have k8 := zok_l (a := a1) (i := (x2 + x3).toNat) (x := l4) k0
    refine r_iinc dX0_store_84 rfl rfl rfl ?_
    refine r_goto (t := 15) dX0_store_87 rfl ?_
    obtain ⟨h9, h10⟩ := h7
    exact r_mask [true, true, true, true, false, false, false] rfl (h10 hx2 h9 k8)
  · have h11 := h2.2 c4
    refine r_iload dX0_store_41 rfl ?_
    refine r_aload_n dX0_store_43 rfl ?_
    refine r_getI dX0_store_44 kf_RX0_39 (zB_lt hc0 hn) (zB_s hc0) (Or.inl rfl) rfl ?_
    refine r_icmp_ge (t := 77) dX0_store_47 rfl hx6 (k0.2.1 _ _) (fun c12 => ?_) (fun c13 => ?_)
    · have h14 := h11.1 c12
      refine r_aload_n dX0_store_77 rfl ?_
      refine r_iload_n dX0_store_78 rfl ?_
      refine r_iload_n dX0_store_79 rfl ?_
      refine r_iadd dX0_store_80 ?_
      refine r_lload dX0_store_81 rfl ?_
      obtain ⟨h15, h16⟩ := h14
      refine r_lastore dX0_store_83 ha1 hs1 h15.1 h15.2 ?_
      have k17 := zok_l (a := a1) (i := (x2 + x3).toNat) (x := l4) k0
      refine r_iinc dX0_store_84 rfl rfl rfl ?_
      refine r_goto (t := 15) dX0_store_87 rfl ?_
      obtain ⟨h18, h19⟩ := h16
      exact r_mask [true, true, true, true, false, false, false] rfl (h19 hx2 h18 k17)
    · have h20 := h11.2 c13
      refine r_lload dX0_store_50 rfl ?_
      refine r_aload_n dX0_store_52 rfl ?_
      refine r_getP (a := (o0 + 1)) dX0_store_53 kf_RX0_9 (zB_lt hc0 hn) (zB_s hc0) rfl (k0.1 _ _ _ (zB_lt hc0 hn) (zB_p0 hc0)) ?_
      refine r_iload dX0_store_56 rfl ?_
      obtain ⟨h21, h22⟩ := h20
      refine r_baloadE dX0_store_58 (zB_l0 hc0 hn) (zB_s0 hc0) h21.1 h21.2 rfl ?_
      refine r_i2l dX0_store_59 ?_
      refine r_iconst dX0_store_60 ?_
      refine r_iload dX0_store_61 rfl ?_
      refine r_bipush dX0_store_63 rfl ?_
      refine r_iand dX0_store_65 ?_
      refine r_imul dX0_store_66 ?_
      refine r_lshl dX0_store_67 ?_
      refine r_lor dX0_store_68 ?_
      refine r_lstore dX0_store_69 rfl rfl ?_
      refine r_iinc dX0_store_71 rfl rfl rfl ?_
      refine r_goto (t := 29) dX0_store_74 rfl ?_
      obtain ⟨h23, h24⟩ := h22
      exact r_mask [true, true, true, true, true, false, true] rfl (h24 hx2 hx3 h23 k0)
/-! StoneRoom$Board.load -/
theorem dX0_load_0 : decode M_X0_load.2.1 0 = .ok (.iconst 0, 1) := by decide +kernel
theorem dX0_load_1 : decode M_X0_load.2.1 1 = .ok (.istore_n 3, 1) := by decide +kernel
theorem dX0_load_2 : decode M_X0_load.2.1 2 = .ok (.iload_n 3, 1) := by decide +kernel
theorem dX0_load_3 : decode M_X0_load.2.1 3 = .ok (.aload_n 0, 1) := by decide +kernel
theorem dX0_load_4 : decode M_X0_load.2.1 4 = .ok (.getfield 39, 3) := by decide +kernel
theorem dX0_load_7 : decode M_X0_load.2.1 7 = .ok (.if_icmp .ge 22, 3) := by decide +kernel
theorem dX0_load_10 : decode M_X0_load.2.1 10 = .ok (.aload_n 0, 1) := by decide +kernel
theorem dX0_load_11 : decode M_X0_load.2.1 11 = .ok (.getfield 9, 3) := by decide +kernel
theorem dX0_load_14 : decode M_X0_load.2.1 14 = .ok (.iload_n 3, 1) := by decide +kernel
theorem dX0_load_15 : decode M_X0_load.2.1 15 = .ok (.aload_n 1, 1) := by decide +kernel
theorem dX0_load_16 : decode M_X0_load.2.1 16 = .ok (.iload_n 2, 1) := by decide +kernel
theorem dX0_load_17 : decode M_X0_load.2.1 17 = .ok (.iload_n 3, 1) := by decide +kernel
theorem dX0_load_18 : decode M_X0_load.2.1 18 = .ok (.invokestatic 82, 3) := by decide +kernel
theorem dX0_load_21 : decode M_X0_load.2.1 21 = .ok (.i2b, 1) := by decide +kernel
theorem dX0_load_22 : decode M_X0_load.2.1 22 = .ok (.bastore, 1) := by decide +kernel
theorem dX0_load_23 : decode M_X0_load.2.1 23 = .ok (.iinc 3 1, 3) := by decide +kernel
theorem dX0_load_26 : decode M_X0_load.2.1 26 = .ok (.goto (-24), 3) := by decide +kernel
theorem dX0_load_29 : decode M_X0_load.2.1 29 = .ok (.return_, 1) := by decide +kernel
def L_X0_load_2 (X : ZX) (d n : Nat) (P : Option Value → ZSto → Prop) (o0 : Nat) (a1 : Nat) (z1 : Nat) (x2 : Int) (x3 : Int) (σ : ZSto) : Prop := R32 x2 → R32 x3 → ZOk n σ → Zn X M_X0_load d n P 2 [some (.ref (zB X + o0)), some (.ref (zB X + a1)), some (iV x2), some (iV x3)] [] σ
theorem w_X0_load {X : ZX} {d n : Nat} {P : ZSto → Prop} {o0 : Nat} {a1 : Nat} {z1 : Nat} {x2 : Int} {σ : ZSto} (hn : 73 ≤ n) (hc0 : zIsB o0) (ha1 : a1 < n) (hs1 : SH a1 = some (.inl (.long, z1))) (hx2 : R32 x2)
    (h : L_X0_load_2 X d n (zpV P) o0 a1 z1 x2 0 σ) :
    ZkV X M_X0_load (d + 1) n [.ref (zB X + o0), .ref (zB X + a1), iV x2] σ P := by
  refine zk_of (ls := [some (.ref (zB X + o0)), some (.ref (zB X + a1)), some (iV x2), none]) pl_RX0 (Nat.le_of_ble_eq_true rfl) rfl (fun k0 => ?_)
  unfold Zn
  refine r_iconst dX0_load_0 ?_
  refine r_istore_n dX0_load_1 rfl rfl ?_
  exact r_mask [true, true, true, true] rfl (h hx2 (r32c rfl) k0)
theorem b_X0_load_2 {X : ZX} {d n : Nat} {P : ZSto → Prop} {o0 : Nat} {a1 : Nat} {z1 : Nat} {x2 : Int} {x3 : Int} {σ : ZSto} (hn : 73 ≤ n) (hc0 : zIsB o0) (ha1 : a1 < n) (hs1 : SH a1 = some (.inl (.long, z1)))
    (h : (gI σ o0 8 ≤ x3 → P σ) ∧ (¬ (gI σ o0 8 ≤ x3) → ZkI X M_X9_pairAt d n [.ref (zB X + a1), iV x2, iV x3] σ (fun v5 σ6 => (0 ≤ x3 ∧ x3 < 81) ∧ R32 (x3 + 1) ∧ L_X0_load_2 X d n (zpV P) o0 a1 z1 x2 (x3 + 1) (sI σ6 (o0 + 1) x3.toNat (w8 v5))))) :
    L_X0_load_2 X d n (zpV P) o0 a1 z1 x2 x3 σ := by
  intro hx2 hx3 k0
  unfold Zn
  refine r_iload_n dX0_load_2 rfl ?_
  refine r_aload_n dX0_load_3 rfl ?_
  refine r_getI dX0_load_4 kf_RX0_39 (zB_lt hc0 hn) (zB_s hc0) (Or.inl rfl) rfl ?_
  refine r_icmp_ge (t := 29) dX0_load_7 rfl hx3 (k0.2.1 _ _) (fun c1 => ?_) (fun c2 => ?_)
  · have h3 := h.1 c1
    exact r_return dX0_load_29 rfl ⟨k0, rfl, h3⟩
  · have h4 := h.2 c2
    refine r_aload_n dX0_load_10 rfl ?_
    refine r_getP (a := (o0 + 1)) dX0_load_11 kf_RX0_9 (zB_lt hc0 hn) (zB_s hc0) rfl (k0.1 _ _ _ (zB_lt hc0 hn) (zB_p0 hc0)) ?_
    refine r_iload_n dX0_load_14 rfl ?_
    refine r_aload_n dX0_load_15 rfl ?_
    refine r_iload_n dX0_load_16 rfl ?_
    refine r_iload_n dX0_load_17 rfl ?_
    refine n_callS (N := M_X9_pairAt) (As := [.ref (zB X + a1), iV x2, iV x3]) (st := [iV x3, .ref (zB X + (o0 + 1))]) dX0_load_18 mk_X9_pairAt km_RX0_82 kd_X9_pairAt rfl (zFits_rm d n n n (Nat.le_refl n)) (Nat.le_of_ble_eq_true rfl) rfl k0 h4 ?_
    rintro _ σ6 k7 ⟨v5, rfl, h8, h9⟩
    change Zm _ _ _ _ _ _ 21 _ [iV v5, iV x3, .ref (zB X + (o0 + 1))] _
    refine r_i2b dX0_load_21 ?_
    obtain ⟨h10, h11⟩ := h9
    refine r_bastore dX0_load_22 (zB_l0 hc0 hn) (zB_s0 hc0) h10.1 h10.2 (w8_lo _) (w8_hi _) ?_
    have k12 := zok_b (i := x3.toNat) (x := w8 v5) k7 (zB_s0 hc0) (w8_lo _) (w8_hi _)
    refine r_iinc dX0_load_23 rfl rfl rfl ?_
    refine r_goto (t := 2) dX0_load_26 rfl ?_
    obtain ⟨h13, h14⟩ := h11
    exact r_mask [true, true, true, true] rfl (h14 hx2 h13 k12)
/-! StoneRoom$Board.packedAs -/
theorem dX0_packedAs_0 : decode M_X0_packedAs.2.1 0 = .ok (.iload_n 2, 1) := by decide +kernel
theorem dX0_packedAs_1 : decode M_X0_packedAs.2.1 1 = .ok (.ifCond .lt 58, 3) := by decide +kernel
theorem dX0_packedAs_4 : decode M_X0_packedAs.2.1 4 = .ok (.iload_n 2, 1) := by decide +kernel
theorem dX0_packedAs_5 : decode M_X0_packedAs.2.1 5 = .ok (.iconst 3, 1) := by decide +kernel
theorem dX0_packedAs_6 : decode M_X0_packedAs.2.1 6 = .ok (.iadd, 1) := by decide +kernel
theorem dX0_packedAs_7 : decode M_X0_packedAs.2.1 7 = .ok (.aload_n 1, 1) := by decide +kernel
theorem dX0_packedAs_8 : decode M_X0_packedAs.2.1 8 = .ok (.arraylength, 1) := by decide +kernel
theorem dX0_packedAs_9 : decode M_X0_packedAs.2.1 9 = .ok (.if_icmp .gt 50, 3) := by decide +kernel
theorem dX0_packedAs_12 : decode M_X0_packedAs.2.1 12 = .ok (.aload_n 1, 1) := by decide +kernel
theorem dX0_packedAs_13 : decode M_X0_packedAs.2.1 13 = .ok (.iload_n 2, 1) := by decide +kernel
theorem dX0_packedAs_14 : decode M_X0_packedAs.2.1 14 = .ok (.laload, 1) := by decide +kernel
theorem dX0_packedAs_15 : decode M_X0_packedAs.2.1 15 = .ok (.aload_n 0, 1) := by decide +kernel
theorem dX0_packedAs_16 : decode M_X0_packedAs.2.1 16 = .ok (.getfield 31, 3) := by decide +kernel
theorem dX0_packedAs_19 : decode M_X0_packedAs.2.1 19 = .ok (.iconst 0, 1) := by decide +kernel
theorem dX0_packedAs_20 : decode M_X0_packedAs.2.1 20 = .ok (.laload, 1) := by decide +kernel
theorem dX0_packedAs_21 : decode M_X0_packedAs.2.1 21 = .ok (.lcmp, 1) := by decide +kernel
theorem dX0_packedAs_22 : decode M_X0_packedAs.2.1 22 = .ok (.ifCond .ne 37, 3) := by decide +kernel
theorem dX0_packedAs_25 : decode M_X0_packedAs.2.1 25 = .ok (.aload_n 1, 1) := by decide +kernel
theorem dX0_packedAs_26 : decode M_X0_packedAs.2.1 26 = .ok (.iload_n 2, 1) := by decide +kernel
theorem dX0_packedAs_27 : decode M_X0_packedAs.2.1 27 = .ok (.iconst 1, 1) := by decide +kernel
theorem dX0_packedAs_28 : decode M_X0_packedAs.2.1 28 = .ok (.iadd, 1) := by decide +kernel
theorem dX0_packedAs_29 : decode M_X0_packedAs.2.1 29 = .ok (.laload, 1) := by decide +kernel
theorem dX0_packedAs_30 : decode M_X0_packedAs.2.1 30 = .ok (.aload_n 0, 1) := by decide +kernel
theorem dX0_packedAs_31 : decode M_X0_packedAs.2.1 31 = .ok (.getfield 31, 3) := by decide +kernel
theorem dX0_packedAs_34 : decode M_X0_packedAs.2.1 34 = .ok (.iconst 1, 1) := by decide +kernel
theorem dX0_packedAs_35 : decode M_X0_packedAs.2.1 35 = .ok (.laload, 1) := by decide +kernel
theorem dX0_packedAs_36 : decode M_X0_packedAs.2.1 36 = .ok (.lcmp, 1) := by decide +kernel
theorem dX0_packedAs_37 : decode M_X0_packedAs.2.1 37 = .ok (.ifCond .ne 22, 3) := by decide +kernel
theorem dX0_packedAs_40 : decode M_X0_packedAs.2.1 40 = .ok (.aload_n 1, 1) := by decide +kernel
theorem dX0_packedAs_41 : decode M_X0_packedAs.2.1 41 = .ok (.iload_n 2, 1) := by decide +kernel
theorem dX0_packedAs_42 : decode M_X0_packedAs.2.1 42 = .ok (.iconst 2, 1) := by decide +kernel
theorem dX0_packedAs_43 : decode M_X0_packedAs.2.1 43 = .ok (.iadd, 1) := by decide +kernel
theorem dX0_packedAs_44 : decode M_X0_packedAs.2.1 44 = .ok (.laload, 1) := by decide +kernel
theorem dX0_packedAs_45 : decode M_X0_packedAs.2.1 45 = .ok (.aload_n 0, 1) := by decide +kernel
theorem dX0_packedAs_46 : decode M_X0_packedAs.2.1 46 = .ok (.getfield 31, 3) := by decide +kernel
theorem dX0_packedAs_49 : decode M_X0_packedAs.2.1 49 = .ok (.iconst 2, 1) := by decide +kernel
theorem dX0_packedAs_50 : decode M_X0_packedAs.2.1 50 = .ok (.laload, 1) := by decide +kernel
theorem dX0_packedAs_51 : decode M_X0_packedAs.2.1 51 = .ok (.lcmp, 1) := by decide +kernel
theorem dX0_packedAs_52 : decode M_X0_packedAs.2.1 52 = .ok (.ifCond .ne 7, 3) := by decide +kernel
theorem dX0_packedAs_55 : decode M_X0_packedAs.2.1 55 = .ok (.iconst 1, 1) := by decide +kernel
theorem dX0_packedAs_56 : decode M_X0_packedAs.2.1 56 = .ok (.goto 4, 3) := by decide +kernel
theorem dX0_packedAs_59 : decode M_X0_packedAs.2.1 59 = .ok (.iconst 0, 1) := by decide +kernel
theorem dX0_packedAs_60 : decode M_X0_packedAs.2.1 60 = .ok (.ireturn, 1) := by decide +kernel
theorem w_X0_packedAs {X : ZX} {d n : Nat} {P : Int → ZSto → Prop} {o0 : Nat} {a1 : Nat} {z1 : Nat} {x2 : Int} {σ : ZSto} (hn : 73 ≤ n) (hc0 : zIsB o0) (ha1 : a1 < n) (hs1 : SH a1 = some (.inl (.long, z1))) (hx2 : R32 x2)
    (h : (x2 < 0 → P 0 σ) ∧ (¬ (x2 < 0) → R32 (x2 + 3) ∧ ((z1 : Int) < x2 + 3 → P 0 σ) ∧ (¬ ((z1 : Int) < x2 + 3) → (0 ≤ x2 ∧ x2 < z1) ∧ (¬ lcmpF (gL σ a1 x2.toNat) (gL σ (o0 + 7) 0) = 0 → P 0 σ) ∧ (lcmpF (gL σ a1 x2.toNat) (gL σ (o0 + 7) 0) = 0 → (0 ≤ x2 + 1 ∧ x2 + 1 < z1) ∧ (¬ lcmpF (gL σ a1 ((x2 + 1).toNat)) (gL σ (o0 + 7) 1) = 0 → P 0 σ) ∧ (lcmpF (gL σ a1 ((x2 + 1).toNat)) (gL σ (o0 + 7) 1) = 0 → (0 ≤ x2 + 2 ∧ x2 + 2 < z1) ∧ (¬ lcmpF (gL σ a1 ((x2 + 2).toNat)) (gL σ (o0 + 7) 2) = 0 → P 0 σ) ∧ (lcmpF (gL σ a1 ((x2 + 2).toNat)) (gL σ (o0 + 7) 2) = 0 → P 1 σ)))))) :
    ZkZ X M_X0_packedAs (d + 1) n [.ref (zB X + o0), .ref (zB X + a1), iV x2] σ P := by
  refine zk_of (ls := [some (.ref (zB X + o0)), some (.ref (zB X + a1)), some (iV x2)]) pl_RX0 (Nat.le_of_ble_eq_true rfl) rfl (fun k0 => ?_)
  unfold Zn
  refine r_iload_n dX0_packedAs_0 rfl ?_
  refine r_if_lt (t := 59) dX0_packedAs_1 rfl hx2  (fun c1 => ?_) (fun c2 => ?_)
  · have h3 := h.1 c1
    refine r_iconst dX0_packedAs_59 ?_
    exact r_zreturn dX0_packedAs_60 rfl (Or.inl rfl) ⟨k0, _, rfl, (Or.inl rfl), h3⟩
  · have h4 := h.2 c2
    refine r_iload_n dX0_packedAs_4 rfl ?_
    refine r_iconst dX0_packedAs_5 ?_
    refine r_iadd dX0_packedAs_6 ?_
    refine r_aload_n dX0_packedAs_7 rfl ?_
    refine r_alen dX0_packedAs_8 ha1 hs1 (Or.inr (Or.inr (Or.inr rfl))) ?_
    obtain ⟨h5, h6⟩ := h4
    refine r_icmp_gt (t := 59) dX0_packedAs_9 rfl h5 (r32_len hs1) (fun c7 => ?_) (fun c8 => ?_)
    · have h9 := h6.1 c7
      refine r_iconst dX0_packedAs_59 ?_
      exact r_zreturn dX0_packedAs_60 rfl (Or.inl rfl) ⟨k0, _, rfl, (Or.inl rfl), h9⟩
    · have h10 := h6.2 c8
      refine r_aload_n dX0_packedAs_12 rfl ?_
      refine r_iload_n dX0_packedAs_13 rfl ?_
      obtain ⟨h11, h12⟩ := h10
      refine r_laloadE dX0_packedAs_14 ha1 hs1 h11.1 h11.2 rfl ?_
      refine r_aload_n dX0_packedAs_15 rfl ?_
      refine r_getP (a := (o0 + 7)) dX0_packedAs_16 kf_RX0_31 (zB_lt hc0 hn) (zB_s hc0) rfl (k0.1 _ _ _ (zB_lt hc0 hn) (zB_p6 hc0)) ?_
      refine r_iconst dX0_packedAs_19 ?_
      refine r_laloadE dX0_packedAs_20 (zB_l6 hc0 hn) (zB_s6 hc0) (by decide) (by decide) rfl ?_
      refine r_lcmp dX0_packedAs_21 ?_
      refine r_if_ne (t := 59) dX0_packedAs_22 rfl (r32_lcmp _ _)  (fun c13 => ?_) (fun c14 => ?_)
      · have h15 := h12.1 c13
        refine r_iconst dX0_packedAs_59 ?_
        exact r_zreturn dX0_packedAs_60 rfl (Or.inl rfl) ⟨k0, _, rfl, (Or.inl rfl), h15⟩
      · have h16 := h12.2 c14
        refine r_aload_n dX0_packedAs_25 rfl ?_
        refine r_iload_n dX0_packedAs_26 rfl ?_
        refine r_iconst dX0_packedAs_27 ?_
        refine r_iadd dX0_packedAs_28 ?_
        obtain ⟨h17, h18⟩ := h16
        refine r_laloadE dX0_packedAs_29 ha1 hs1 h17.1 h17.2 rfl ?_
        refine r_aload_n dX0_packedAs_30 rfl ?_
        refine r_getP (a := (o0 + 7)) dX0_packedAs_31 kf_RX0_31 (zB_lt hc0 hn) (zB_s hc0) rfl (k0.1 _ _ _ (zB_lt hc0 hn) (zB_p6 hc0)) ?_
        refine r_iconst dX0_packedAs_34 ?_
        refine r_laloadE dX0_packedAs_35 (zB_l6 hc0 hn) (zB_s6 hc0) (by decide) (by decide) rfl ?_
        refine r_lcmp dX0_packedAs_36 ?_
        refine r_if_ne (t := 59) dX0_packedAs_37 rfl (r32_lcmp _ _)  (fun c19 => ?_) (fun c20 => ?_)
        · have h21 := h18.1 c19
          refine r_iconst dX0_packedAs_59 ?_
          exact r_zreturn dX0_packedAs_60 rfl (Or.inl rfl) ⟨k0, _, rfl, (Or.inl rfl), h21⟩
        · have h22 := h18.2 c20
          refine r_aload_n dX0_packedAs_40 rfl ?_
          refine r_iload_n dX0_packedAs_41 rfl ?_
          refine r_iconst dX0_packedAs_42 ?_
          refine r_iadd dX0_packedAs_43 ?_
          obtain ⟨h23, h24⟩ := h22
          refine r_laloadE dX0_packedAs_44 ha1 hs1 h23.1 h23.2 rfl ?_
          refine r_aload_n dX0_packedAs_45 rfl ?_
          refine r_getP (a := (o0 + 7)) dX0_packedAs_46 kf_RX0_31 (zB_lt hc0 hn) (zB_s hc0) rfl (k0.1 _ _ _ (zB_lt hc0 hn) (zB_p6 hc0)) ?_
          refine r_iconst dX0_packedAs_49 ?_
          refine r_laloadE dX0_packedAs_50 (zB_l6 hc0 hn) (zB_s6 hc0) (by decide) (by decide) rfl ?_
          refine r_lcmp dX0_packedAs_51 ?_
          refine r_if_ne (t := 59) dX0_packedAs_52 rfl (r32_lcmp _ _)  (fun c25 => ?_) (fun c26 => ?_)
          · have h27 := h24.1 c25
            refine r_iconst dX0_packedAs_59 ?_
            exact r_zreturn dX0_packedAs_60 rfl (Or.inl rfl) ⟨k0, _, rfl, (Or.inl rfl), h27⟩
          · have h28 := h24.2 c26
            refine r_iconst dX0_packedAs_55 ?_
            refine r_goto (t := 60) dX0_packedAs_56 rfl ?_
            exact r_zreturn dX0_packedAs_60 rfl (Or.inr rfl) ⟨k0, _, rfl, (Or.inr rfl), h28⟩
/-! StoneRoom$Board.has -/
theorem dX0_has_0 : decode M_X0_has.2.1 0 = .ok (.iload_n 1, 1) := by decide +kernel
theorem dX0_has_1 : decode M_X0_has.2.1 1 = .ok (.ifCond .lt 15, 3) := by decide +kernel
theorem dX0_has_4 : decode M_X0_has.2.1 4 = .ok (.iload_n 1, 1) := by decide +kernel
theorem dX0_has_5 : decode M_X0_has.2.1 5 = .ok (.aload_n 0, 1) := by decide +kernel
theorem dX0_has_6 : decode M_X0_has.2.1 6 = .ok (.getfield 39, 3) := by decide +kernel
theorem dX0_has_9 : decode M_X0_has.2.1 9 = .ok (.if_icmp .ge 7, 3) := by decide +kernel
theorem dX0_has_12 : decode M_X0_has.2.1 12 = .ok (.iconst 1, 1) := by decide +kernel
theorem dX0_has_13 : decode M_X0_has.2.1 13 = .ok (.goto 4, 3) := by decide +kernel
theorem dX0_has_16 : decode M_X0_has.2.1 16 = .ok (.iconst 0, 1) := by decide +kernel
theorem dX0_has_17 : decode M_X0_has.2.1 17 = .ok (.ireturn, 1) := by decide +kernel
theorem w_X0_has {X : ZX} {d n : Nat} {P : Int → ZSto → Prop} {o0 : Nat} {x1 : Int} {σ : ZSto} (hn : 73 ≤ n) (hc0 : zIsB o0) (hx1 : R32 x1)
    (h : (x1 < 0 → P 0 σ) ∧ (¬ (x1 < 0) → (gI σ o0 8 ≤ x1 → P 0 σ) ∧ (¬ (gI σ o0 8 ≤ x1) → P 1 σ))) :
    ZkZ X M_X0_has (d + 1) n [.ref (zB X + o0), iV x1] σ P := by
  refine zk_of (ls := [some (.ref (zB X + o0)), some (iV x1)]) pl_RX0 (Nat.le_of_ble_eq_true rfl) rfl (fun k0 => ?_)
  unfold Zn
  refine r_iload_n dX0_has_0 rfl ?_
  refine r_if_lt (t := 16) dX0_has_1 rfl hx1  (fun c1 => ?_) (fun c2 => ?_)
  · have h3 := h.1 c1
    refine r_iconst dX0_has_16 ?_
    exact r_zreturn dX0_has_17 rfl (Or.inl rfl) ⟨k0, _, rfl, (Or.inl rfl), h3⟩
  · have h4 := h.2 c2
    refine r_iload_n dX0_has_4 rfl ?_
    refine r_aload_n dX0_has_5 rfl ?_
    refine r_getI dX0_has_6 kf_RX0_39 (zB_lt hc0 hn) (zB_s hc0) (Or.inl rfl) rfl ?_
    refine r_icmp_ge (t := 16) dX0_has_9 rfl hx1 (k0.2.1 _ _) (fun c5 => ?_) (fun c6 => ?_)
    · have h7 := h4.1 c5
      refine r_iconst dX0_has_16 ?_
      exact r_zreturn dX0_has_17 rfl (Or.inl rfl) ⟨k0, _, rfl, (Or.inl rfl), h7⟩
    · have h8 := h4.2 c6
      refine r_iconst dX0_has_12 ?_
      refine r_goto (t := 17) dX0_has_13 rfl ?_
      exact r_zreturn dX0_has_17 rfl (Or.inr rfl) ⟨k0, _, rfl, (Or.inr rfl), h8⟩
/-! StoneRoom$Board.contentOf -/
theorem dX0_contentOf_0 : decode M_X0_contentOf.2.1 0 = .ok (.iload_n 1, 1) := by decide +kernel
theorem dX0_contentOf_1 : decode M_X0_contentOf.2.1 1 = .ok (.ifCond .lt 20, 3) := by decide +kernel
theorem dX0_contentOf_4 : decode M_X0_contentOf.2.1 4 = .ok (.iload_n 1, 1) := by decide +kernel
theorem dX0_contentOf_5 : decode M_X0_contentOf.2.1 5 = .ok (.aload_n 0, 1) := by decide +kernel
theorem dX0_contentOf_6 : decode M_X0_contentOf.2.1 6 = .ok (.getfield 39, 3) := by decide +kernel
theorem dX0_contentOf_9 : decode M_X0_contentOf.2.1 9 = .ok (.if_icmp .ge 12, 3) := by decide +kernel
theorem dX0_contentOf_12 : decode M_X0_contentOf.2.1 12 = .ok (.aload_n 0, 1) := by decide +kernel
theorem dX0_contentOf_13 : decode M_X0_contentOf.2.1 13 = .ok (.getfield 9, 3) := by decide +kernel
theorem dX0_contentOf_16 : decode M_X0_contentOf.2.1 16 = .ok (.iload_n 1, 1) := by decide +kernel
theorem dX0_contentOf_17 : decode M_X0_contentOf.2.1 17 = .ok (.baload, 1) := by decide +kernel
theorem dX0_contentOf_18 : decode M_X0_contentOf.2.1 18 = .ok (.goto 4, 3) := by decide +kernel
theorem dX0_contentOf_21 : decode M_X0_contentOf.2.1 21 = .ok (.iconst (-1), 1) := by decide +kernel
theorem dX0_contentOf_22 : decode M_X0_contentOf.2.1 22 = .ok (.ireturn, 1) := by decide +kernel
theorem w_X0_contentOf {X : ZX} {d n : Nat} {P : Int → ZSto → Prop} {o0 : Nat} {x1 : Int} {σ : ZSto} (hn : 73 ≤ n) (hc0 : zIsB o0) (hx1 : R32 x1)
    (h : (x1 < 0 → P ((-1)) σ) ∧ (¬ (x1 < 0) → (gI σ o0 8 ≤ x1 → P ((-1)) σ) ∧ (¬ (gI σ o0 8 ≤ x1) → (0 ≤ x1 ∧ x1 < 81) ∧ P (gI σ (o0 + 1) x1.toNat) σ))) :
    ZkI X M_X0_contentOf (d + 1) n [.ref (zB X + o0), iV x1] σ P := by
  refine zk_of (ls := [some (.ref (zB X + o0)), some (iV x1)]) pl_RX0 (Nat.le_of_ble_eq_true rfl) rfl (fun k0 => ?_)
  unfold Zn
  refine r_iload_n dX0_contentOf_0 rfl ?_
  refine r_if_lt (t := 21) dX0_contentOf_1 rfl hx1  (fun c1 => ?_) (fun c2 => ?_)
  · have h3 := h.1 c1
    refine r_iconst dX0_contentOf_21 ?_
    exact r_ireturn dX0_contentOf_22 rfl ⟨k0, _, rfl, (r32c rfl), h3⟩
  · have h4 := h.2 c2
    refine r_iload_n dX0_contentOf_4 rfl ?_
    refine r_aload_n dX0_contentOf_5 rfl ?_
    refine r_getI dX0_contentOf_6 kf_RX0_39 (zB_lt hc0 hn) (zB_s hc0) (Or.inl rfl) rfl ?_
    refine r_icmp_ge (t := 21) dX0_contentOf_9 rfl hx1 (k0.2.1 _ _) (fun c5 => ?_) (fun c6 => ?_)
    · have h7 := h4.1 c5
      refine r_iconst dX0_contentOf_21 ?_
      exact r_ireturn dX0_contentOf_22 rfl ⟨k0, _, rfl, (r32c rfl), h7⟩
    · have h8 := h4.2 c6
      refine r_aload_n dX0_contentOf_12 rfl ?_
      refine r_getP (a := (o0 + 1)) dX0_contentOf_13 kf_RX0_9 (zB_lt hc0 hn) (zB_s hc0) rfl (k0.1 _ _ _ (zB_lt hc0 hn) (zB_p0 hc0)) ?_
      refine r_iload_n dX0_contentOf_16 rfl ?_
      obtain ⟨h9, h10⟩ := h8
      refine r_baloadE dX0_contentOf_17 (zB_l0 hc0 hn) (zB_s0 hc0) h9.1 h9.2 rfl ?_
      refine r_goto (t := 22) dX0_contentOf_18 rfl ?_
      exact r_ireturn dX0_contentOf_22 rfl ⟨k0, _, rfl, (k0.2.1 _ _), h10⟩
/-! StoneRoom$Board.hasStone -/
theorem dX0_hasStone_0 : decode M_X0_hasStone.2.1 0 = .ok (.aload_n 0, 1) := by decide +kernel
theorem dX0_hasStone_1 : decode M_X0_hasStone.2.1 1 = .ok (.iload_n 1, 1) := by decide +kernel
theorem dX0_hasStone_2 : decode M_X0_hasStone.2.1 2 = .ok (.invokevirtual 86, 3) := by decide +kernel
theorem dX0_hasStone_5 : decode M_X0_hasStone.2.1 5 = .ok (.ifCond .le 7, 3) := by decide +kernel
theorem dX0_hasStone_8 : decode M_X0_hasStone.2.1 8 = .ok (.iconst 1, 1) := by decide +kernel
theorem dX0_hasStone_9 : decode M_X0_hasStone.2.1 9 = .ok (.goto 4, 3) := by decide +kernel
theorem dX0_hasStone_12 : decode M_X0_hasStone.2.1 12 = .ok (.iconst 0, 1) := by decide +kernel
theorem dX0_hasStone_13 : decode M_X0_hasStone.2.1 13 = .ok (.ireturn, 1) := by decide +kernel
theorem w_X0_hasStone {X : ZX} {d n : Nat} {P : Int → ZSto → Prop} {o0 : Nat} {x1 : Int} {σ : ZSto} (hn : 73 ≤ n) (hc0 : zIsB o0) (hx1 : R32 x1)
    (h : ZkI X M_X0_contentOf d n [.ref (zB X + o0), iV x1] σ (fun v1 σ2 => (v1 ≤ 0 → P 0 σ2) ∧ (¬ (v1 ≤ 0) → P 1 σ2))) :
    ZkZ X M_X0_hasStone (d + 1) n [.ref (zB X + o0), iV x1] σ P := by
  refine zk_of (ls := [some (.ref (zB X + o0)), some (iV x1)]) pl_RX0 (Nat.le_of_ble_eq_true rfl) rfl (fun k0 => ?_)
  unfold Zn
  refine r_aload_n dX0_hasStone_0 rfl ?_
  refine r_iload_n dX0_hasStone_1 rfl ?_
  refine n_callV (N := M_X0_contentOf) (As := [iV x1]) (st := []) dX0_hasStone_2 mk_X0_contentOf km_RX0_86 kd_X0_contentOf rfl (zB_lt hc0 hn) (zB_s hc0) (q := (RX0, TX0, 13)) rfl rfl (zFits_rm d n n n (Nat.le_refl n)) (Nat.le_of_ble_eq_true rfl) rfl k0 h ?_
  rintro _ σ2 k3 ⟨v1, rfl, h4, h5⟩
  change Zm _ _ _ _ _ _ 5 _ [iV v1] _
  refine r_if_le (t := 12) dX0_hasStone_5 rfl h4  (fun c6 => ?_) (fun c7 => ?_)
  · have h8 := h5.1 c6
    refine r_iconst dX0_hasStone_12 ?_
    exact r_zreturn dX0_hasStone_13 rfl (Or.inl rfl) ⟨k3, _, rfl, (Or.inl rfl), h8⟩
  · have h9 := h5.2 c7
    refine r_iconst dX0_hasStone_8 ?_
    refine r_goto (t := 13) dX0_hasStone_9 rfl ?_
    exact r_zreturn dX0_hasStone_13 rfl (Or.inr rfl) ⟨k3, _, rfl, (Or.inr rfl), h9⟩
/-! StoneRoom$Board.lay -/
theorem dX0_lay_0 : decode M_X0_lay.2.1 0 = .ok (.aload_n 0, 1) := by decide +kernel
theorem dX0_lay_1 : decode M_X0_lay.2.1 1 = .ok (.iload_n 1, 1) := by decide +kernel
theorem dX0_lay_2 : decode M_X0_lay.2.1 2 = .ok (.invokevirtual 90, 3) := by decide +kernel
theorem dX0_lay_5 : decode M_X0_lay.2.1 5 = .ok (.ifCond .eq 11, 3) := by decide +kernel
theorem dX0_lay_8 : decode M_X0_lay.2.1 8 = .ok (.aload_n 0, 1) := by decide +kernel
theorem dX0_lay_9 : decode M_X0_lay.2.1 9 = .ok (.getfield 9, 3) := by decide +kernel
theorem dX0_lay_12 : decode M_X0_lay.2.1 12 = .ok (.iload_n 1, 1) := by decide +kernel
theorem dX0_lay_13 : decode M_X0_lay.2.1 13 = .ok (.iload_n 2, 1) := by decide +kernel
theorem dX0_lay_14 : decode M_X0_lay.2.1 14 = .ok (.i2b, 1) := by decide +kernel
theorem dX0_lay_15 : decode M_X0_lay.2.1 15 = .ok (.bastore, 1) := by decide +kernel
theorem dX0_lay_16 : decode M_X0_lay.2.1 16 = .ok (.return_, 1) := by decide +kernel
theorem w_X0_lay {X : ZX} {d n : Nat} {P : ZSto → Prop} {o0 : Nat} {x1 : Int} {x2 : Int} {σ : ZSto} (hn : 73 ≤ n) (hc0 : zIsB o0) (hx1 : R32 x1) (hx2 : R32 x2)
    (h : ZkZ X M_X0_has d n [.ref (zB X + o0), iV x1] σ (fun v1 σ2 => (v1 = 0 → P σ2) ∧ (¬ (v1 = 0) → (0 ≤ x1 ∧ x1 < 81) ∧ P (sI σ2 (o0 + 1) x1.toNat (w8 x2))))) :
    ZkV X M_X0_lay (d + 1) n [.ref (zB X + o0), iV x1, iV x2] σ P := by
  refine zk_of (ls := [some (.ref (zB X + o0)), some (iV x1), some (iV x2)]) pl_RX0 (Nat.le_of_ble_eq_true rfl) rfl (fun k0 => ?_)
  unfold Zn
  refine r_aload_n dX0_lay_0 rfl ?_
  refine r_iload_n dX0_lay_1 rfl ?_
  refine n_callV (N := M_X0_has) (As := [iV x1]) (st := []) dX0_lay_2 mk_X0_has km_RX0_90 kd_X0_has rfl (zB_lt hc0 hn) (zB_s hc0) (q := (RX0, TX0, 13)) rfl rfl (zFits_rm d n n n (Nat.le_refl n)) (Nat.le_of_ble_eq_true rfl) rfl k0 h ?_
  rintro _ σ2 k3 ⟨v1, rfl, h4, h5⟩
  change Zm _ _ _ _ _ _ 5 _ [iV v1] _
  refine r_if_eq (t := 16) dX0_lay_5 rfl (r32_z h4)  (fun c6 => ?_) (fun c7 => ?_)
  · have h8 := h5.1 c6
    exact r_return dX0_lay_16 rfl ⟨k3, rfl, h8⟩
  · have h9 := h5.2 c7
    refine r_aload_n dX0_lay_8 rfl ?_
    refine r_getP (a := (o0 + 1)) dX0_lay_9 kf_RX0_9 (zB_lt hc0 hn) (zB_s hc0) rfl (k3.1 _ _ _ (zB_lt hc0 hn) (zB_p0 hc0)) ?_
    refine r_iload_n dX0_lay_12 rfl ?_
    refine r_iload_n dX0_lay_13 rfl ?_
    refine r_i2b dX0_lay_14 ?_
    obtain ⟨h10, h11⟩ := h9
    refine r_bastore dX0_lay_15 (zB_l0 hc0 hn) (zB_s0 hc0) h10.1 h10.2 (w8_lo _) (w8_hi _) ?_
    have k12 := zok_b (i := x1.toNat) (x := w8 x2) k3 (zB_s0 hc0) (w8_lo _) (w8_hi _)
    exact r_return dX0_lay_16 rfl ⟨k12, rfl, h11⟩
/-! StoneRoom$Board.neighbour -/
theorem dX0_neighbour_0 : decode M_X0_neighbour.2.1 0 = .ok (.iload_n 1, 1) := by decide +kernel
theorem dX0_neighbour_1 : decode M_X0_neighbour.2.1 1 = .ok (.ifCond .lt 24, 3) := by decide +kernel
theorem dX0_neighbour_4 : decode M_X0_neighbour.2.1 4 = .ok (.iload_n 1, 1) := by decide +kernel
theorem dX0_neighbour_5 : decode M_X0_neighbour.2.1 5 = .ok (.aload_n 0, 1) := by decide +kernel
theorem dX0_neighbour_6 : decode M_X0_neighbour.2.1 6 = .ok (.getfield 39, 3) := by decide +kernel
theorem dX0_neighbour_9 : decode M_X0_neighbour.2.1 9 = .ok (.if_icmp .ge 16, 3) := by decide +kernel
theorem dX0_neighbour_12 : decode M_X0_neighbour.2.1 12 = .ok (.iload_n 2, 1) := by decide +kernel
theorem dX0_neighbour_13 : decode M_X0_neighbour.2.1 13 = .ok (.ifCond .lt 12, 3) := by decide +kernel
theorem dX0_neighbour_16 : decode M_X0_neighbour.2.1 16 = .ok (.iload_n 2, 1) := by decide +kernel
theorem dX0_neighbour_17 : decode M_X0_neighbour.2.1 17 = .ok (.iconst 4, 1) := by decide +kernel
theorem dX0_neighbour_18 : decode M_X0_neighbour.2.1 18 = .ok (.if_icmp .ge 7, 3) := by decide +kernel
theorem dX0_neighbour_21 : decode M_X0_neighbour.2.1 21 = .ok (.iconst 1, 1) := by decide +kernel
theorem dX0_neighbour_22 : decode M_X0_neighbour.2.1 22 = .ok (.goto 4, 3) := by decide +kernel
theorem dX0_neighbour_25 : decode M_X0_neighbour.2.1 25 = .ok (.iconst 0, 1) := by decide +kernel
theorem dX0_neighbour_26 : decode M_X0_neighbour.2.1 26 = .ok (.istore_n 3, 1) := by decide +kernel
theorem dX0_neighbour_27 : decode M_X0_neighbour.2.1 27 = .ok (.iload_n 3, 1) := by decide +kernel
theorem dX0_neighbour_28 : decode M_X0_neighbour.2.1 28 = .ok (.ifCond .eq 16, 3) := by decide +kernel
theorem dX0_neighbour_31 : decode M_X0_neighbour.2.1 31 = .ok (.aload_n 0, 1) := by decide +kernel
theorem dX0_neighbour_32 : decode M_X0_neighbour.2.1 32 = .ok (.getfield 15, 3) := by decide +kernel
theorem dX0_neighbour_35 : decode M_X0_neighbour.2.1 35 = .ok (.iconst 4, 1) := by decide +kernel
theorem dX0_neighbour_36 : decode M_X0_neighbour.2.1 36 = .ok (.iload_n 1, 1) := by decide +kernel
theorem dX0_neighbour_37 : decode M_X0_neighbour.2.1 37 = .ok (.imul, 1) := by decide +kernel
theorem dX0_neighbour_38 : decode M_X0_neighbour.2.1 38 = .ok (.iload_n 2, 1) := by decide +kernel
theorem dX0_neighbour_39 : decode M_X0_neighbour.2.1 39 = .ok (.iadd, 1) := by decide +kernel
theorem dX0_neighbour_40 : decode M_X0_neighbour.2.1 40 = .ok (.iaload, 1) := by decide +kernel
theorem dX0_neighbour_41 : decode M_X0_neighbour.2.1 41 = .ok (.goto 4, 3) := by decide +kernel
theorem dX0_neighbour_44 : decode M_X0_neighbour.2.1 44 = .ok (.iconst (-1), 1) := by decide +kernel
theorem dX0_neighbour_45 : decode M_X0_neighbour.2.1 45 = .ok (.ireturn, 1) := by decide +kernel
theorem w_X0_neighbour {X : ZX} {d n : Nat} {P : Int → ZSto → Prop} {o0 : Nat} {x1 : Int} {x2 : Int} {σ : ZSto} (hn : 73 ≤ n) (hc0 : zIsB o0) (hx1 : R32 x1) (hx2 : R32 x2)
    (h : (x1 < 0 → P ((-1)) σ) ∧ (¬ (x1 < 0) → (gI σ o0 8 ≤ x1 → P ((-1)) σ) ∧ (¬ (gI σ o0 8 ≤ x1) → (x2 < 0 → P ((-1)) σ) ∧ (¬ (x2 < 0) → (4 ≤ x2 → P ((-1)) σ) ∧ (¬ (4 ≤ x2) → (0 ≤ (4 * x1) + x2 ∧ (4 * x1) + x2 < 324) ∧ P (gI σ (o0 + 2) (((4 * x1) + x2).toNat)) σ))))) :
    ZkI X M_X0_neighbour (d + 1) n [.ref (zB X + o0), iV x1, iV x2] σ P := by
  refine zk_of (ls := [some (.ref (zB X + o0)), some (iV x1), some (iV x2), none]) pl_RX0 (Nat.le_of_ble_eq_true rfl) rfl (fun k0 => ?_)
  unfold Zn
  refine r_iload_n dX0_neighbour_0 rfl ?_
  refine r_if_lt (t := 25) dX0_neighbour_1 rfl hx1  (fun c1 => ?_) (fun c2 => ?_)
  · have h3 := h.1 c1
    refine r_iconst dX0_neighbour_25 ?_
    refine r_istore_n dX0_neighbour_26 rfl rfl ?_
    refine r_iload_n dX0_neighbour_27 rfl ?_
    refine r_if_eq (t := 44) dX0_neighbour_28 rfl (r32c rfl)  (fun _ => ?_) (fun c4 => absurd c4 (by decide))
    refine r_iconst dX0_neighbour_44 ?_
    exact r_ireturn dX0_neighbour_45 rfl ⟨k0, _, rfl, (r32c rfl), h3⟩
  · have h5 := h.2 c2
    refine r_iload_n dX0_neighbour_4 rfl ?_
    refine r_aload_n dX0_neighbour_5 rfl ?_
    refine r_getI dX0_neighbour_6 kf_RX0_39 (zB_lt hc0 hn) (zB_s hc0) (Or.inl rfl) rfl ?_
    refine r_icmp_ge (t := 25) dX0_neighbour_9 rfl hx1 (k0.2.1 _ _) (fun c6 => ?_) (fun c7 => ?_)
    · have h8 := h5.1 c6
      refine r_iconst dX0_neighbour_25 ?_
      refine r_istore_n dX0_neighbour_26 rfl rfl ?_
      refine r_iload_n dX0_neighbour_27 rfl ?_
      refine r_if_eq (t := 44) dX0_neighbour_28 rfl (r32c rfl)  (fun _ => ?_) (fun c9 => absurd c9 (by decide))
      refine r_iconst dX0_neighbour_44 ?_
      exact r_ireturn dX0_neighbour_45 rfl ⟨k0, _, rfl, (r32c rfl), h8⟩
    · have h10 := h5.2 c7
      refine r_iload_n dX0_neighbour_12 rfl ?_
      refine r_if_lt (t := 25) dX0_neighbour_13 rfl hx2  (fun c11 => ?_) (fun c12 => ?_)
      · have h13 := h10.1 c11
        refine r_iconst dX0_neighbour_25 ?_
        refine r_istore_n dX0_neighbour_26 rfl rfl ?_
        refine r_iload_n dX0_neighbour_27 rfl ?_
        refine r_if_eq (t := 44) dX0_neighbour_28 rfl (r32c rfl)  (fun _ => ?_) (fun c14 => absurd c14 (by decide))
        refine r_iconst dX0_neighbour_44 ?_
        exact r_ireturn dX0_neighbour_45 rfl ⟨k0, _, rfl, (r32c rfl), h13⟩
      · have h15 := h10.2 c12
        refine r_iload_n dX0_neighbour_16 rfl ?_
        refine r_iconst dX0_neighbour_17 ?_
        refine r_icmp_ge (t := 25) dX0_neighbour_18 rfl hx2 (r32c rfl) (fun c16 => ?_) (fun c17 => ?_)
        · have h18 := h15.1 c16
          refine r_iconst dX0_neighbour_25 ?_
          refine r_istore_n dX0_neighbour_26 rfl rfl ?_
          refine r_iload_n dX0_neighbour_27 rfl ?_
          refine r_if_eq (t := 44) dX0_neighbour_28 rfl (r32c rfl)  (fun _ => ?_) (fun c19 => absurd c19 (by decide))
          refine r_iconst dX0_neighbour_44 ?_
          exact r_ireturn dX0_neighbour_45 rfl ⟨k0, _, rfl, (r32c rfl), h18⟩
        · have h20 := h15.2 c17
          refine r_iconst dX0_neighbour_21 ?_
          refine r_goto (t := 26) dX0_neighbour_22 rfl ?_
          refine r_istore_n dX0_neighbour_26 rfl rfl ?_
          refine r_iload_n dX0_neighbour_27 rfl ?_
          refine r_if_eq (t := 44) dX0_neighbour_28 rfl (r32c rfl)  (fun c21 => absurd c21 (by decide)) (fun _ => ?_)
          refine r_aload_n dX0_neighbour_31 rfl ?_
          refine r_getP (a := (o0 + 2)) dX0_neighbour_32 kf_RX0_15 (zB_lt hc0 hn) (zB_s hc0) rfl (k0.1 _ _ _ (zB_lt hc0 hn) (zB_p1 hc0)) ?_
          refine r_iconst dX0_neighbour_35 ?_
          refine r_iload_n dX0_neighbour_36 rfl ?_
          refine r_imul dX0_neighbour_37 ?_
          refine r_iload_n dX0_neighbour_38 rfl ?_
          refine r_iadd dX0_neighbour_39 ?_
          obtain ⟨h22, h23⟩ := h20
          refine r_ialoadE dX0_neighbour_40 (zB_l1 hc0 hn) (zB_s1 hc0) h22.1 h22.2 rfl ?_
          refine r_goto (t := 45) dX0_neighbour_41 rfl ?_
          exact r_ireturn dX0_neighbour_45 rfl ⟨k0, _, rfl, (k0.2.1 _ _), h23⟩
/-! StoneRoom$Board.gather -/
theorem dX0_gather_0 : decode M_X0_gather.2.1 0 = .ok (.aload_n 0, 1) := by decide +kernel
theorem dX0_gather_1 : decode M_X0_gather.2.1 1 = .ok (.dup, 1) := by decide +kernel
theorem dX0_gather_2 : decode M_X0_gather.2.1 2 = .ok (.getfield 45, 3) := by decide +kernel
theorem dX0_gather_5 : decode M_X0_gather.2.1 5 = .ok (.iconst 1, 1) := by decide +kernel
theorem dX0_gather_6 : decode M_X0_gather.2.1 6 = .ok (.iadd, 1) := by decide +kernel
theorem dX0_gather_7 : decode M_X0_gather.2.1 7 = .ok (.putfield 45, 3) := by decide +kernel
theorem dX0_gather_10 : decode M_X0_gather.2.1 10 = .ok (.aload_n 0, 1) := by decide +kernel
theorem dX0_gather_11 : decode M_X0_gather.2.1 11 = .ok (.iconst 0, 1) := by decide +kernel
theorem dX0_gather_12 : decode M_X0_gather.2.1 12 = .ok (.putfield 42, 3) := by decide +kernel
theorem dX0_gather_15 : decode M_X0_gather.2.1 15 = .ok (.aload_n 0, 1) := by decide +kernel
theorem dX0_gather_16 : decode M_X0_gather.2.1 16 = .ok (.iconst (-1), 1) := by decide +kernel
theorem dX0_gather_17 : decode M_X0_gather.2.1 17 = .ok (.putfield 48, 3) := by decide +kernel
theorem dX0_gather_20 : decode M_X0_gather.2.1 20 = .ok (.aload_n 0, 1) := by decide +kernel
theorem dX0_gather_21 : decode M_X0_gather.2.1 21 = .ok (.getfield 28, 3) := by decide +kernel
theorem dX0_gather_24 : decode M_X0_gather.2.1 24 = .ok (.iconst 0, 1) := by decide +kernel
theorem dX0_gather_25 : decode M_X0_gather.2.1 25 = .ok (.iconst 0, 1) := by decide +kernel
theorem dX0_gather_26 : decode M_X0_gather.2.1 26 = .ok (.iastore, 1) := by decide +kernel
theorem dX0_gather_27 : decode M_X0_gather.2.1 27 = .ok (.aload_n 0, 1) := by decide +kernel
theorem dX0_gather_28 : decode M_X0_gather.2.1 28 = .ok (.getfield 28, 3) := by decide +kernel
theorem dX0_gather_31 : decode M_X0_gather.2.1 31 = .ok (.iconst 1, 1) := by decide +kernel
theorem dX0_gather_32 : decode M_X0_gather.2.1 32 = .ok (.iconst 0, 1) := by decide +kernel
theorem dX0_gather_33 : decode M_X0_gather.2.1 33 = .ok (.iastore, 1) := by decide +kernel
theorem dX0_gather_34 : decode M_X0_gather.2.1 34 = .ok (.aload_n 0, 1) := by decide +kernel
theorem dX0_gather_35 : decode M_X0_gather.2.1 35 = .ok (.getfield 28, 3) := by decide +kernel
theorem dX0_gather_38 : decode M_X0_gather.2.1 38 = .ok (.iconst 2, 1) := by decide +kernel
theorem dX0_gather_39 : decode M_X0_gather.2.1 39 = .ok (.iconst 0, 1) := by decide +kernel
theorem dX0_gather_40 : decode M_X0_gather.2.1 40 = .ok (.iastore, 1) := by decide +kernel
theorem dX0_gather_41 : decode M_X0_gather.2.1 41 = .ok (.iload_n 1, 1) := by decide +kernel
theorem dX0_gather_42 : decode M_X0_gather.2.1 42 = .ok (.ifCond .lt 11, 3) := by decide +kernel
theorem dX0_gather_45 : decode M_X0_gather.2.1 45 = .ok (.iload_n 1, 1) := by decide +kernel
theorem dX0_gather_46 : decode M_X0_gather.2.1 46 = .ok (.aload_n 0, 1) := by decide +kernel
theorem dX0_gather_47 : decode M_X0_gather.2.1 47 = .ok (.getfield 39, 3) := by decide +kernel
theorem dX0_gather_50 : decode M_X0_gather.2.1 50 = .ok (.if_icmp .lt 4, 3) := by decide +kernel
theorem dX0_gather_53 : decode M_X0_gather.2.1 53 = .ok (.return_, 1) := by decide +kernel
theorem dX0_gather_54 : decode M_X0_gather.2.1 54 = .ok (.aload_n 0, 1) := by decide +kernel
theorem dX0_gather_55 : decode M_X0_gather.2.1 55 = .ok (.getfield 22, 3) := by decide +kernel
theorem dX0_gather_58 : decode M_X0_gather.2.1 58 = .ok (.iload_n 1, 1) := by decide +kernel
theorem dX0_gather_59 : decode M_X0_gather.2.1 59 = .ok (.aload_n 0, 1) := by decide +kernel
theorem dX0_gather_60 : decode M_X0_gather.2.1 60 = .ok (.getfield 45, 3) := by decide +kernel
theorem dX0_gather_63 : decode M_X0_gather.2.1 63 = .ok (.iastore, 1) := by decide +kernel
theorem dX0_gather_64 : decode M_X0_gather.2.1 64 = .ok (.aload_n 0, 1) := by decide +kernel
theorem dX0_gather_65 : decode M_X0_gather.2.1 65 = .ok (.getfield 19, 3) := by decide +kernel
theorem dX0_gather_68 : decode M_X0_gather.2.1 68 = .ok (.iconst 0, 1) := by decide +kernel
theorem dX0_gather_69 : decode M_X0_gather.2.1 69 = .ok (.iload_n 1, 1) := by decide +kernel
theorem dX0_gather_70 : decode M_X0_gather.2.1 70 = .ok (.iastore, 1) := by decide +kernel
theorem dX0_gather_71 : decode M_X0_gather.2.1 71 = .ok (.aload_n 0, 1) := by decide +kernel
theorem dX0_gather_72 : decode M_X0_gather.2.1 72 = .ok (.iconst 1, 1) := by decide +kernel
theorem dX0_gather_73 : decode M_X0_gather.2.1 73 = .ok (.putfield 42, 3) := by decide +kernel
theorem dX0_gather_76 : decode M_X0_gather.2.1 76 = .ok (.iconst 0, 1) := by decide +kernel
theorem dX0_gather_77 : decode M_X0_gather.2.1 77 = .ok (.istore_n 3, 1) := by decide +kernel
theorem dX0_gather_78 : decode M_X0_gather.2.1 78 = .ok (.iload_n 3, 1) := by decide +kernel
theorem dX0_gather_79 : decode M_X0_gather.2.1 79 = .ok (.aload_n 0, 1) := by decide +kernel
theorem dX0_gather_80 : decode M_X0_gather.2.1 80 = .ok (.getfield 42, 3) := by decide +kernel
theorem dX0_gather_83 : decode M_X0_gather.2.1 83 = .ok (.if_icmp .ge 197, 3) := by decide +kernel
theorem dX0_gather_86 : decode M_X0_gather.2.1 86 = .ok (.iload_n 3, 1) := by decide +kernel
theorem dX0_gather_87 : decode M_X0_gather.2.1 87 = .ok (.bipush 81, 2) := by decide +kernel
theorem dX0_gather_89 : decode M_X0_gather.2.1 89 = .ok (.if_icmp .ge 191, 3) := by decide +kernel
theorem dX0_gather_92 : decode M_X0_gather.2.1 92 = .ok (.iconst 0, 1) := by decide +kernel
theorem dX0_gather_93 : decode M_X0_gather.2.1 93 = .ok (.istore 4, 2) := by decide +kernel
theorem dX0_gather_95 : decode M_X0_gather.2.1 95 = .ok (.iload 4, 2) := by decide +kernel
theorem dX0_gather_97 : decode M_X0_gather.2.1 97 = .ok (.iconst 4, 1) := by decide +kernel
theorem dX0_gather_98 : decode M_X0_gather.2.1 98 = .ok (.if_icmp .ge 176, 3) := by decide +kernel
theorem dX0_gather_101 : decode M_X0_gather.2.1 101 = .ok (.aload_n 0, 1) := by decide +kernel
theorem dX0_gather_102 : decode M_X0_gather.2.1 102 = .ok (.getfield 15, 3) := by decide +kernel
theorem dX0_gather_105 : decode M_X0_gather.2.1 105 = .ok (.iconst 4, 1) := by decide +kernel
theorem dX0_gather_106 : decode M_X0_gather.2.1 106 = .ok (.aload_n 0, 1) := by decide +kernel
theorem dX0_gather_107 : decode M_X0_gather.2.1 107 = .ok (.getfield 19, 3) := by decide +kernel
theorem dX0_gather_110 : decode M_X0_gather.2.1 110 = .ok (.iload_n 3, 1) := by decide +kernel
theorem dX0_gather_111 : decode M_X0_gather.2.1 111 = .ok (.iaload, 1) := by decide +kernel
theorem dX0_gather_112 : decode M_X0_gather.2.1 112 = .ok (.imul, 1) := by decide +kernel
theorem dX0_gather_113 : decode M_X0_gather.2.1 113 = .ok (.iload 4, 2) := by decide +kernel
theorem dX0_gather_115 : decode M_X0_gather.2.1 115 = .ok (.iadd, 1) := by decide +kernel
theorem dX0_gather_116 : decode M_X0_gather.2.1 116 = .ok (.iaload, 1) := by decide +kernel
theorem dX0_gather_117 : decode M_X0_gather.2.1 117 = .ok (.istore 5, 2) := by decide +kernel
theorem dX0_gather_119 : decode M_X0_gather.2.1 119 = .ok (.iload 5, 2) := by decide +kernel
theorem dX0_gather_121 : decode M_X0_gather.2.1 121 = .ok (.ifCond .lt 147, 3) := by decide +kernel
theorem dX0_gather_124 : decode M_X0_gather.2.1 124 = .ok (.aload_n 0, 1) := by decide +kernel
theorem dX0_gather_125 : decode M_X0_gather.2.1 125 = .ok (.getfield 22, 3) := by decide +kernel
theorem dX0_gather_128 : decode M_X0_gather.2.1 128 = .ok (.iload 5, 2) := by decide +kernel
theorem dX0_gather_130 : decode M_X0_gather.2.1 130 = .ok (.iaload, 1) := by decide +kernel
theorem dX0_gather_131 : decode M_X0_gather.2.1 131 = .ok (.aload_n 0, 1) := by decide +kernel
theorem dX0_gather_132 : decode M_X0_gather.2.1 132 = .ok (.getfield 45, 3) := by decide +kernel
theorem dX0_gather_135 : decode M_X0_gather.2.1 135 = .ok (.if_icmp .eq 133, 3) := by decide +kernel
theorem dX0_gather_138 : decode M_X0_gather.2.1 138 = .ok (.aload_n 0, 1) := by decide +kernel
theorem dX0_gather_139 : decode M_X0_gather.2.1 139 = .ok (.getfield 25, 3) := by decide +kernel
theorem dX0_gather_142 : decode M_X0_gather.2.1 142 = .ok (.iload 5, 2) := by decide +kernel
theorem dX0_gather_144 : decode M_X0_gather.2.1 144 = .ok (.iaload, 1) := by decide +kernel
theorem dX0_gather_145 : decode M_X0_gather.2.1 145 = .ok (.aload_n 0, 1) := by decide +kernel
theorem dX0_gather_146 : decode M_X0_gather.2.1 146 = .ok (.getfield 45, 3) := by decide +kernel
theorem dX0_gather_149 : decode M_X0_gather.2.1 149 = .ok (.if_icmp .ne 6, 3) := by decide +kernel
theorem dX0_gather_152 : decode M_X0_gather.2.1 152 = .ok (.goto 116, 3) := by decide +kernel
theorem dX0_gather_155 : decode M_X0_gather.2.1 155 = .ok (.aload_n 0, 1) := by decide +kernel
theorem dX0_gather_156 : decode M_X0_gather.2.1 156 = .ok (.getfield 9, 3) := by decide +kernel
theorem dX0_gather_159 : decode M_X0_gather.2.1 159 = .ok (.iload 5, 2) := by decide +kernel
theorem dX0_gather_161 : decode M_X0_gather.2.1 161 = .ok (.baload, 1) := by decide +kernel
theorem dX0_gather_162 : decode M_X0_gather.2.1 162 = .ok (.istore 6, 2) := by decide +kernel
theorem dX0_gather_164 : decode M_X0_gather.2.1 164 = .ok (.iload_n 2, 1) := by decide +kernel
theorem dX0_gather_165 : decode M_X0_gather.2.1 165 = .ok (.iload 6, 2) := by decide +kernel
theorem dX0_gather_167 : decode M_X0_gather.2.1 167 = .ok (.ishr, 1) := by decide +kernel
theorem dX0_gather_168 : decode M_X0_gather.2.1 168 = .ok (.iconst 1, 1) := by decide +kernel
theorem dX0_gather_169 : decode M_X0_gather.2.1 169 = .ok (.iand, 1) := by decide +kernel
theorem dX0_gather_170 : decode M_X0_gather.2.1 170 = .ok (.ifCond .ne 57, 3) := by decide +kernel
theorem dX0_gather_173 : decode M_X0_gather.2.1 173 = .ok (.aload_n 0, 1) := by decide +kernel
theorem dX0_gather_174 : decode M_X0_gather.2.1 174 = .ok (.getfield 25, 3) := by decide +kernel
theorem dX0_gather_177 : decode M_X0_gather.2.1 177 = .ok (.iload 5, 2) := by decide +kernel
theorem dX0_gather_179 : decode M_X0_gather.2.1 179 = .ok (.aload_n 0, 1) := by decide +kernel
theorem dX0_gather_180 : decode M_X0_gather.2.1 180 = .ok (.getfield 45, 3) := by decide +kernel
theorem dX0_gather_183 : decode M_X0_gather.2.1 183 = .ok (.iastore, 1) := by decide +kernel
theorem dX0_gather_184 : decode M_X0_gather.2.1 184 = .ok (.iload 6, 2) := by decide +kernel
theorem dX0_gather_186 : decode M_X0_gather.2.1 186 = .ok (.ifCond .lt 20, 3) := by decide +kernel
theorem dX0_gather_189 : decode M_X0_gather.2.1 189 = .ok (.iload 6, 2) := by decide +kernel
theorem dX0_gather_191 : decode M_X0_gather.2.1 191 = .ok (.iconst 2, 1) := by decide +kernel
theorem dX0_gather_192 : decode M_X0_gather.2.1 192 = .ok (.if_icmp .gt 14, 3) := by decide +kernel
theorem dX0_gather_195 : decode M_X0_gather.2.1 195 = .ok (.aload_n 0, 1) := by decide +kernel
theorem dX0_gather_196 : decode M_X0_gather.2.1 196 = .ok (.getfield 28, 3) := by decide +kernel
theorem dX0_gather_199 : decode M_X0_gather.2.1 199 = .ok (.iload 6, 2) := by decide +kernel
theorem dX0_gather_201 : decode M_X0_gather.2.1 201 = .ok (.dup2, 1) := by decide +kernel
theorem dX0_gather_202 : decode M_X0_gather.2.1 202 = .ok (.iaload, 1) := by decide +kernel
theorem dX0_gather_203 : decode M_X0_gather.2.1 203 = .ok (.iconst 1, 1) := by decide +kernel
theorem dX0_gather_204 : decode M_X0_gather.2.1 204 = .ok (.iadd, 1) := by decide +kernel
theorem dX0_gather_205 : decode M_X0_gather.2.1 205 = .ok (.iastore, 1) := by decide +kernel
theorem dX0_gather_206 : decode M_X0_gather.2.1 206 = .ok (.aload_n 0, 1) := by decide +kernel
theorem dX0_gather_207 : decode M_X0_gather.2.1 207 = .ok (.iload 6, 2) := by decide +kernel
theorem dX0_gather_209 : decode M_X0_gather.2.1 209 = .ok (.ifCond .ne 8, 3) := by decide +kernel
theorem dX0_gather_212 : decode M_X0_gather.2.1 212 = .ok (.iload 5, 2) := by decide +kernel
theorem dX0_gather_214 : decode M_X0_gather.2.1 214 = .ok (.goto 7, 3) := by decide +kernel
theorem dX0_gather_217 : decode M_X0_gather.2.1 217 = .ok (.aload_n 0, 1) := by decide +kernel
theorem dX0_gather_218 : decode M_X0_gather.2.1 218 = .ok (.getfield 48, 3) := by decide +kernel
theorem dX0_gather_221 : decode M_X0_gather.2.1 221 = .ok (.putfield 48, 3) := by decide +kernel
theorem dX0_gather_224 : decode M_X0_gather.2.1 224 = .ok (.goto 44, 3) := by decide +kernel
theorem dX0_gather_227 : decode M_X0_gather.2.1 227 = .ok (.aload_n 0, 1) := by decide +kernel
theorem dX0_gather_228 : decode M_X0_gather.2.1 228 = .ok (.getfield 42, 3) := by decide +kernel
theorem dX0_gather_231 : decode M_X0_gather.2.1 231 = .ok (.bipush 81, 2) := by decide +kernel
theorem dX0_gather_233 : decode M_X0_gather.2.1 233 = .ok (.if_icmp .ge 35, 3) := by decide +kernel
theorem dX0_gather_236 : decode M_X0_gather.2.1 236 = .ok (.aload_n 0, 1) := by decide +kernel
theorem dX0_gather_237 : decode M_X0_gather.2.1 237 = .ok (.getfield 22, 3) := by decide +kernel
theorem dX0_gather_240 : decode M_X0_gather.2.1 240 = .ok (.iload 5, 2) := by decide +kernel
theorem dX0_gather_242 : decode M_X0_gather.2.1 242 = .ok (.aload_n 0, 1) := by decide +kernel
theorem dX0_gather_243 : decode M_X0_gather.2.1 243 = .ok (.getfield 45, 3) := by decide +kernel
theorem dX0_gather_246 : decode M_X0_gather.2.1 246 = .ok (.iastore, 1) := by decide +kernel
theorem dX0_gather_247 : decode M_X0_gather.2.1 247 = .ok (.aload_n 0, 1) := by decide +kernel
theorem dX0_gather_248 : decode M_X0_gather.2.1 248 = .ok (.getfield 19, 3) := by decide +kernel
theorem dX0_gather_251 : decode M_X0_gather.2.1 251 = .ok (.aload_n 0, 1) := by decide +kernel
theorem dX0_gather_252 : decode M_X0_gather.2.1 252 = .ok (.getfield 42, 3) := by decide +kernel
theorem dX0_gather_255 : decode M_X0_gather.2.1 255 = .ok (.iload 5, 2) := by decide +kernel
theorem dX0_gather_257 : decode M_X0_gather.2.1 257 = .ok (.iastore, 1) := by decide +kernel
theorem dX0_gather_258 : decode M_X0_gather.2.1 258 = .ok (.aload_n 0, 1) := by decide +kernel
theorem dX0_gather_259 : decode M_X0_gather.2.1 259 = .ok (.dup, 1) := by decide +kernel
theorem dX0_gather_260 : decode M_X0_gather.2.1 260 = .ok (.getfield 42, 3) := by decide +kernel
theorem dX0_gather_263 : decode M_X0_gather.2.1 263 = .ok (.iconst 1, 1) := by decide +kernel
theorem dX0_gather_264 : decode M_X0_gather.2.1 264 = .ok (.iadd, 1) := by decide +kernel
theorem dX0_gather_265 : decode M_X0_gather.2.1 265 = .ok (.putfield 42, 3) := by decide +kernel
theorem dX0_gather_268 : decode M_X0_gather.2.1 268 = .ok (.iinc 4 1, 3) := by decide +kernel
theorem dX0_gather_271 : decode M_X0_gather.2.1 271 = .ok (.goto (-176), 3) := by decide +kernel
theorem dX0_gather_274 : decode M_X0_gather.2.1 274 = .ok (.iinc 3 1, 3) := by decide +kernel
theorem dX0_gather_277 : decode M_X0_gather.2.1 277 = .ok (.goto (-199), 3) := by decide +kernel
theorem dX0_gather_280 : decode M_X0_gather.2.1 280 = .ok (.return_, 1) := by decide +kernel
def L_X0_gather_78 (X : ZX) (d n : Nat) (P : Option Value → ZSto → Prop) (o0 : Nat) (x2 : Int) (x3 : Int) (σ : ZSto) : Prop := R32 x2 → R32 x3 → ZOk n σ → Zn X M_X0_gather d n P 78 [some (.ref (zB X + o0)), none, some (iV x2), some (iV x3), none, none, none] [] σ
def L_X0_gather_95 (X : ZX) (d n : Nat) (P : Option Value → ZSto → Prop) (o0 : Nat) (x2 : Int) (x3 : Int) (x4 : Int) (σ : ZSto) : Prop := R32 x2 → R32 x3 → R32 x4 → ZOk n σ → Zn X M_X0_gather d n P 95 [some (.ref (zB X + o0)), none, some (iV x2), some (iV x3), some (iV x4), none, none] [] σ
theorem w_X0_gather {X : ZX} {d n : Nat} {P : ZSto → Prop} {o0 : Nat} {x1 : Int} {x2 : Int} {σ : ZSto} (hn : 73 ≤ n) (hc0 : zIsB o0) (hx1 : R32 x1) (hx2 : R32 x2)
    (h : R32 ((gI σ o0 10) + 1) ∧ (x1 < 0 → P (sI (sI (sI (sI (sI (sI σ o0 10 ((gI σ o0 10) + 1)) o0 9 0) o0 11 ((-1))) (o0 + 6) 0 0) (o0 + 6) 1 0) (o0 + 6) 2 0)) ∧ (¬ (x1 < 0) → (x1 < gI σ o0 8 → (0 ≤ x1 ∧ x1 < 81) ∧ L_X0_gather_78 X d n (zpV P) o0 x2 0 (sI (sI (sI (sI (sI (sI (sI (sI (sI σ o0 10 ((gI σ o0 10) + 1)) o0 9 0) o0 11 ((-1))) (o0 + 6) 0 0) (o0 + 6) 1 0) (o0 + 6) 2 0) (o0 + 4) x1.toNat ((gI σ o0 10) + 1)) (o0 + 3) 0 x1) o0 9 1)) ∧ (¬ (x1 < gI σ o0 8) → P (sI (sI (sI (sI (sI (sI σ o0 10 ((gI σ o0 10) + 1)) o0 9 0) o0 11 ((-1))) (o0 + 6) 0 0) (o0 + 6) 1 0) (o0 + 6) 2 0)))) :
    ZkV X M_X0_gather (d + 1) n [.ref (zB X + o0), iV x1, iV x2] σ P := by
  refine zk_of (ls := [some (.ref (zB X + o0)), some (iV x1), some (iV x2), none, none, none, none]) pl_RX0 (Nat.le_of_ble_eq_true rfl) rfl (fun k0 => ?_)
  unfold Zn
  refine r_aload_n dX0_gather_0 rfl ?_
  refine r_dup dX0_gather_1 rfl ?_
  refine r_getI dX0_gather_2 kf_RX0_45 (zB_lt hc0 hn) (zB_s hc0) (Or.inl rfl) rfl ?_
  refine r_iconst dX0_gather_5 ?_
  refine r_iadd dX0_gather_6 ?_
  obtain ⟨h1, h2⟩ := h
  refine r_putI dX0_gather_7 kf_RX0_45 (zB_lt hc0 hn) (zB_s hc0) rfl (Or.inl rfl) ?_
  have k3 := zok_o (i := 10) (x := (gI σ o0 10) + 1) k0 (zB_s hc0) h1
  refine r_aload_n dX0_gather_10 rfl ?_
  refine r_iconst dX0_gather_11 ?_
  refine r_putI dX0_gather_12 kf_RX0_42 (zB_lt hc0 hn) (zB_s hc0) rfl (Or.inl rfl) ?_
  have k4 := zok_o (i := 9) (x := 0) k3 (zB_s hc0) (r32c rfl)
  refine r_aload_n dX0_gather_15 rfl ?_
  refine r_iconst dX0_gather_16 ?_
  refine r_putI dX0_gather_17 kf_RX0_48 (zB_lt hc0 hn) (zB_s hc0) rfl (Or.inl rfl) ?_
  have k5 := zok_o (i := 11) (x := (-1)) k4 (zB_s hc0) (r32c rfl)
  refine r_aload_n dX0_gather_20 rfl ?_
  refine r_getP (a := (o0 + 6)) dX0_gather_21 kf_RX0_28 (zB_lt hc0 hn) (zB_s hc0) rfl (k5.1 _ _ _ (zB_lt hc0 hn) (zB_p5 hc0)) ?_
  refine r_iconst dX0_gather_24 ?_
  refine r_iconst dX0_gather_25 ?_
  refine r_iastore dX0_gather_26 (zB_l5 hc0 hn) (zB_s5 hc0) (by decide) (by decide) ?_
  have k6 := zok_i (i := 0) (x := 0) k5 (zB_s5 hc0) (r32c rfl)
  refine r_aload_n dX0_gather_27 rfl ?_
  refine r_getP (a := (o0 + 6)) dX0_gather_28 kf_RX0_28 (zB_lt hc0 hn) (zB_s hc0) rfl (k6.1 _ _ _ (zB_lt hc0 hn) (zB_p5 hc0)) ?_
  refine r_iconst dX0_gather_31 ?_
  refine r_iconst dX0_gather_32 ?_
  refine r_iastore dX0_gather_33 (zB_l5 hc0 hn) (zB_s5 hc0) (by decide) (by decide) ?_
  have k7 := zok_i (i := 1) (x := 0) k6 (zB_s5 hc0) (r32c rfl)
  refine r_aload_n dX0_gather_34 rfl ?_
  refine r_getP (a := (o0 + 6)) dX0_gather_35 kf_RX0_28 (zB_lt hc0 hn) (zB_s hc0) rfl (k7.1 _ _ _ (zB_lt hc0 hn) (zB_p5 hc0)) ?_
  refine r_iconst dX0_gather_38 ?_
  refine r_iconst dX0_gather_39 ?_
  refine r_iastore dX0_gather_40 (zB_l5 hc0 hn) (zB_s5 hc0) (by decide) (by decide) ?_
  have k8 := zok_i (i := 2) (x := 0) k7 (zB_s5 hc0) (r32c rfl)
  refine r_iload_n dX0_gather_41 rfl ?_
  refine r_if_lt (t := 53) dX0_gather_42 rfl hx1  (fun c9 => ?_) (fun c10 => ?_)
  · have h11 := h2.1 c9
    exact r_return dX0_gather_53 rfl ⟨k8, rfl, h11⟩
  · have h12 := h2.2 c10
    refine r_iload_n dX0_gather_45 rfl ?_
    refine r_aload_n dX0_gather_46 rfl ?_
    refine r_getI dX0_gather_47 kf_RX0_39 (zB_lt hc0 hn) (zB_s hc0) (Or.inl rfl) ((gI_f (by decide)).trans ((gI_f (by decide)).trans ((gI_f (by decide)).trans ((gI_f (by decide)).trans ((gI_f (by decide)).trans (gI_f (by decide))))))) ?_
    refine r_icmp_lt (t := 54) dX0_gather_50 rfl hx1 (k0.2.1 _ _) (fun c13 => ?_) (fun c14 => ?_)
    · have h15 := h12.1 c13
      refine r_aload_n dX0_gather_54 rfl ?_
      refine r_getP (a := (o0 + 4)) dX0_gather_55 kf_RX0_22 (zB_lt hc0 hn) (zB_s hc0) rfl (k8.1 _ _ _ (zB_lt hc0 hn) (zB_p3 hc0)) ?_
      refine r_iload_n dX0_gather_58 rfl ?_
      refine r_aload_n dX0_gather_59 rfl ?_
      refine r_getI dX0_gather_60 kf_RX0_45 (zB_lt hc0 hn) (zB_s hc0) (Or.inl rfl) ((gI_f (by decide)).trans ((gI_f (by decide)).trans ((gI_f (by decide)).trans ((gI_f (by decide)).trans ((gI_f (by decide)).trans (gI_same _ _ _ _)))))) ?_
      obtain ⟨h16, h17⟩ := h15
      refine r_iastore dX0_gather_63 (zB_l3 hc0 hn) (zB_s3 hc0) h16.1 h16.2 ?_
      have k18 := zok_i (i := x1.toNat) (x := (gI σ o0 10) + 1) k8 (zB_s3 hc0) h1
      refine r_aload_n dX0_gather_64 rfl ?_
      refine r_getP (a := (o0 + 3)) dX0_gather_65 kf_RX0_19 (zB_lt hc0 hn) (zB_s hc0) rfl (k18.1 _ _ _ (zB_lt hc0 hn) (zB_p2 hc0)) ?_
      refine r_iconst dX0_gather_68 ?_
      refine r_iload_n dX0_gather_69 rfl ?_
      refine r_iastore dX0_gather_70 (zB_l2 hc0 hn) (zB_s2 hc0) (by decide) (by decide) ?_
      have k19 := zok_i (i := 0) (x := x1) k18 (zB_s2 hc0) hx1
      refine r_aload_n dX0_gather_71 rfl ?_
      refine r_iconst dX0_gather_72 ?_
      refine r_putI dX0_gather_73 kf_RX0_42 (zB_lt hc0 hn) (zB_s hc0) rfl (Or.inl rfl) ?_
      have k20 := zok_o (i := 9) (x := 1) k19 (zB_s hc0) (r32c rfl)
      refine r_iconst dX0_gather_76 ?_
      refine r_istore_n dX0_gather_77 rfl rfl ?_
      exact r_mask [true, false, true, true, false, false, false] rfl (h17 hx2 (r32c rfl) k20)
    · have h21 := h12.2 c14
      exact r_return dX0_gather_53 rfl ⟨k8, rfl, h21⟩
theorem b_X0_gather_78 {X : ZX} {d n : Nat} {P : ZSto → Prop} {o0 : Nat} {x2 : Int} {x3 : Int} {σ : ZSto} (hn : 73 ≤ n) (hc0 : zIsB o0)
    (h : (gI σ o0 9 ≤ x3 → P σ) ∧ (¬ (gI σ o0 9 ≤ x3) → (81 ≤ x3 → P σ) ∧ (¬ (81 ≤ x3) → L_X0_gather_95 X d n (zpV P) o0 x2 x3 0 σ))) :
    L_X0_gather_78 X d n (zpV P) o0 x2 x3 σ := by
  intro hx2 hx3 k0
  unfold Zn
  refine r_iload_n dX0_gather_78 rfl ?_
  refine r_aload_n dX0_gather_79 rfl ?_
  refine r_getI dX0_gather_80 kf_RX0_42 (zB_lt hc0 hn) (zB_s hc0) (Or.inl rfl) rfl ?_
  refine r_icmp_ge (t := 280) dX0_gather_83 rfl hx3 (k0.2.1 _ _) (fun c1 => ?_) (fun c2 => ?_)
  · have h3 := h.1 c1
    exact r_return dX0_gather_280 rfl ⟨k0, rfl, h3⟩
  · have h4 := h.2 c2
    refine r_iload_n dX0_gather_86 rfl ?_
    refine r_bipush dX0_gather_87 rfl ?_
    refine r_icmp_ge (t := 280) dX0_gather_89 rfl hx3 (r32c rfl) (fun c5 => ?_) (fun c6 => ?_)
    · have h7 := h4.1 c5
      exact r_return dX0_gather_280 rfl ⟨k0, rfl, h7⟩
    · have h8 := h4.2 c6
      refine r_iconst dX0_gather_92 ?_
      refine r_istore dX0_gather_93 rfl rfl ?_
      exact r_mask [true, false, true, true, true, false, false] rfl (h8 hx2 hx3 (r32c rfl) k0)
theorem b_X0_gather_95 {X : ZX} {d n : Nat} {P : ZSto → Prop} {o0 : Nat} {x2 : Int} {x3 : Int} {x4 : Int} {σ : ZSto} (hn : 73 ≤ n) (hc0 : zIsB o0)
    (h : (4 ≤ x4 → R32 (x3 + 1) ∧ L_X0_gather_78 X d n (zpV P) o0 x2 (x3 + 1) σ) ∧ (¬ (4 ≤ x4) → (0 ≤ x3 ∧ x3 < 81) ∧ (0 ≤ (4 * (gI σ (o0 + 3) x3.toNat)) + x4 ∧ (4 * (gI σ (o0 + 3) x3.toNat)) + x4 < 324) ∧ (∀ y11 : Int, y11 = gI σ (o0 + 2) (((4 * (gI σ (o0 + 3) x3.toNat)) + x4).toNat) → (y11 < 0 → R32 (x4 + 1) ∧ L_X0_gather_95 X d n (zpV P) o0 x2 x3 (x4 + 1) σ) ∧ (¬ (y11 < 0) → (0 ≤ y11 ∧ y11 < 81) ∧ (gI σ (o0 + 4) y11.toNat = gI σ o0 10 → R32 (x4 + 1) ∧ L_X0_gather_95 X d n (zpV P) o0 x2 x3 (x4 + 1) σ) ∧ (¬ (gI σ (o0 + 4) y11.toNat = gI σ o0 10) → (¬ gI σ (o0 + 5) y11.toNat = gI σ o0 10 → (∀ y31 : Int, y31 = gI σ (o0 + 1) y11.toNat → (¬ andI (shrI x2 y31) 1 = 0 → (81 ≤ gI σ o0 9 → R32 (x4 + 1) ∧ L_X0_gather_95 X d n (zpV P) o0 x2 x3 (x4 + 1) σ) ∧ (¬ (81 ≤ gI σ o0 9) → (0 ≤ gI σ o0 9 ∧ gI σ o0 9 < 81) ∧ R32 ((gI σ o0 9) + 1) ∧ R32 (x4 + 1) ∧ L_X0_gather_95 X d n (zpV P) o0 x2 x3 (x4 + 1) (sI (sI (sI σ (o0 + 4) y11.toNat (gI σ o0 10)) (o0 + 3) ((gI σ o0 9).toNat) y11) o0 9 ((gI σ o0 9) + 1)))) ∧ (andI (shrI x2 y31) 1 = 0 → (y31 < 0 → (¬ y31 = 0 → R32 (x4 + 1) ∧ L_X0_gather_95 X d n (zpV P) o0 x2 x3 (x4 + 1) (sI (sI σ (o0 + 5) y11.toNat (gI σ o0 10)) o0 11 (gI σ o0 11))) ∧ (y31 = 0 → R32 (x4 + 1) ∧ L_X0_gather_95 X d n (zpV P) o0 x2 x3 (x4 + 1) (sI (sI σ (o0 + 5) y11.toNat (gI σ o0 10)) o0 11 y11))) ∧ (¬ (y31 < 0) → (2 < y31 → (¬ y31 = 0 → R32 (x4 + 1) ∧ L_X0_gather_95 X d n (zpV P) o0 x2 x3 (x4 + 1) (sI (sI σ (o0 + 5) y11.toNat (gI σ o0 10)) o0 11 (gI σ o0 11))) ∧ (y31 = 0 → R32 (x4 + 1) ∧ L_X0_gather_95 X d n (zpV P) o0 x2 x3 (x4 + 1) (sI (sI σ (o0 + 5) y11.toNat (gI σ o0 10)) o0 11 y11))) ∧ (¬ (2 < y31) → (0 ≤ y31 ∧ y31 < 3) ∧ R32 ((gI σ (o0 + 6) y31.toNat) + 1) ∧ (¬ y31 = 0 → R32 (x4 + 1) ∧ L_X0_gather_95 X d n (zpV P) o0 x2 x3 (x4 + 1) (sI (sI (sI σ (o0 + 5) y11.toNat (gI σ o0 10)) (o0 + 6) y31.toNat ((gI σ (o0 + 6) y31.toNat) + 1)) o0 11 (gI σ o0 11))) ∧ (y31 = 0 → R32 (x4 + 1) ∧ L_X0_gather_95 X d n (zpV P) o0 x2 x3 (x4 + 1) (sI (sI (sI σ (o0 + 5) y11.toNat (gI σ o0 10)) (o0 + 6) y31.toNat ((gI σ (o0 + 6) y31.toNat) + 1)) o0 11 y11))))))) ∧ (gI σ (o0 + 5) y11.toNat = gI σ o0 10 → R32 (x4 + 1) ∧ L_X0_gather_95 X d n (zpV P) o0 x2 x3 (x4 + 1) σ)))))) :
    L_X0_gather_95 X d n (zpV P) o0 x2 x3 x4 σ := by
  intro hx2 hx3 hx4 k0
  unfold Zn
  refine r_iload dX0_gather_95 rfl ?_
  refine r_iconst dX0_gather_97 ?_
  refine r_icmp_ge (t := 274) dX0_gather_98 rfl hx4 (r32c rfl) (fun c1 => ?_) (fun c2 => ?_)
  · have h3 := h.1 c1
    refine r_iinc dX0_gather_274 rfl rfl rfl ?_
    refine r_goto (t := 78) dX0_gather_277 rfl ?_
    obtain ⟨h4, h5⟩ := h3
    exact r_mask [true, false, true, true, false, false, false] rfl (h5 hx2 h4 k0)
  · have h6 := h.2 c2
    refine r_aload_n dX0_gather_101 rfl ?_
    refine r_getP (a := (o0 + 2)) dX0_gather_102 kf_RX0_15 (zB_lt hc0 hn) (zB_s hc0) rfl (k0.1 _ _ _ (zB_lt hc0 hn) (zB_p1 hc0)) ?_
    refine r_iconst dX0_gather_105 ?_
    refine r_aload_n dX0_gather_106 rfl ?_
    refine r_getP (a := (o0 + 3)) dX0_gather_107 kf_RX0_19 (zB_lt hc0 hn) (zB_s hc0) rfl (k0.1 _ _ _ (zB_lt hc0 hn) (zB_p2 hc0)) ?_
    refine r_iload_n dX0_gather_110 rfl ?_
    obtain ⟨h7, h8⟩ := h6
    refine r_ialoadE dX0_gather_111 (zB_l2 hc0 hn) (zB_s2 hc0) h7.1 h7.2 rfl ?_
    refine r_imul dX0_gather_112 ?_
    refine r_iload dX0_gather_113 rfl ?_
    refine r_iadd dX0_gather_115 ?_
    obtain ⟨h9, h10⟩ := h8
    refine r_ialoadE dX0_gather_116 (zB_l1 hc0 hn) (zB_s1 hc0) h9.1 h9.2 rfl ?_
    refine r_name (fun y11 e12 => ?_)
    have h13 := h10 y11 e12
    refine r_istore dX0_gather_117 rfl rfl ?_
    refine r_iload dX0_gather_119 rfl ?_
    refine r_if_lt (t := 268) dX0_gather_121 rfl (by rw [e12]; exact (k0.2.1 _ _))  (fun c14 => ?_) (fun c15 => ?_)
    · have h16 := h13.1 c14
      refine r_iinc dX0_gather_268 rfl rfl rfl ?_
      refine r_goto (t := 95) dX0_gather_271 rfl ?_
      obtain ⟨h17, h18⟩ := h16
      exact r_mask [true, false, true, true, true, false, false] rfl (h18 hx2 hx3 h17 k0)
    · have h19 := h13.2 c15
      refine r_aload_n dX0_gather_124 rfl ?_
      refine r_getP (a := (o0 + 4)) dX0_gather_125 kf_RX0_22 (zB_lt hc0 hn) (zB_s hc0) rfl (k0.1 _ _ _ (zB_lt hc0 hn) (zB_p3 hc0)) ?_
      refine r_iload dX0_gather_128 rfl ?_
      obtain ⟨h20, h21⟩ := h19
      refine r_ialoadE dX0_gather_130 (zB_l3 hc0 hn) (zB_s3 hc0) h20.1 h20.2 rfl ?_
      refine r_aload_n dX0_gather_131 rfl ?_
      refine r_getI dX0_gather_132 kf_RX0_45 (zB_lt hc0 hn) (zB_s hc0) (Or.inl rfl) rfl ?_
      refine r_icmp_eq (t := 268) dX0_gather_135 rfl (k0.2.1 _ _) (k0.2.1 _ _) (fun c22 => ?_) (fun c23 => ?_)
      · have h24 := h21.1 c22
        refine r_iinc dX0_gather_268 rfl rfl rfl ?_
        refine r_goto (t := 95) dX0_gather_271 rfl ?_
        obtain ⟨h25, h26⟩ := h24
        exact r_mask [true, false, true, true, true, false, false] rfl (h26 hx2 hx3 h25 k0)
      · have h27 := h21.2 c23
        refine r_aload_n dX0_gather_138 rfl ?_
        refine r_getP (a := (o0 + 5)) dX0_gather_139 kf_RX0_25 (zB_lt hc0 hn) (zB_s hc0) rfl (k0.1 _ _ _ (zB_lt hc0 hn) (zB_p4 hc0)) ?_
        refine r_iload dX0_gather_142 rfl ?_
        refine r_ialoadE dX0_gather_144 (zB_l4 hc0 hn) (zB_s4 hc0) h20.1 h20.2 rfl ?_
        refine r_aload_n dX0_gather_145 rfl ?_
        refine r_getI dX0_gather_146 kf_RX0_45 (zB_lt hc0 hn) (zB_s hc0) (Or.inl rfl) rfl ?_
        refine r_icmp_ne (t := 155) dX0_gather_149 rfl (k0.2.1 _ _) (k0.2.1 _ _) (fun c28 => ?_) (fun c29 => ?_)
        · have h30 := h27.1 c28
          refine r_aload_n dX0_gather_155 rfl ?_
          refine r_getP (a := (o0 + 1)) dX0_gather_156 kf_RX0_9 (zB_lt hc0 hn) (zB_s hc0) rfl (k0.1 _ _ _ (zB_lt hc0 hn) (zB_p0 hc0)) ?_
          refine r_iload dX0_gather_159 rfl ?_
          refine r_baloadE dX0_gather_161 (zB_l0 hc0 hn) (zB_s0 hc0) h20.1 h20.2 rfl ?_
          refine r_name (fun y31 e32 => ?_)
          have h33 := h30 y31 e32
          refine r_istore dX0_gather_162 rfl rfl ?_
          refine r_iload_n dX0_gather_164 rfl ?_
          refine r_iload dX0_gather_165 rfl ?_
          refine r_ishr dX0_gather_167 ?_
          refine r_iconst dX0_gather_168 ?_
          refine r_iand dX0_gather_169 ?_
          refine r_if_ne (t := 227) dX0_gather_170 rfl (r32_and _ _)  (fun c34 => ?_) (fun c35 => ?_)
          · have h36 := h33.1 c34
            refine r_aload_n dX0_gather_227 rfl ?_
            refine r_getI dX0_gather_228 kf_RX0_42 (zB_lt hc0 hn) (zB_s hc0) (Or.inl rfl) rfl ?_
            refine r_bipush dX0_gather_231 rfl ?_
            refine r_icmp_ge (t := 268) dX0_gather_233 rfl (k0.2.1 _ _) (r32c rfl) (fun c37 => ?_) (fun c38 => ?_)
            · have h39 := h36.1 c37
              refine r_iinc dX0_gather_268 rfl rfl rfl ?_
              refine r_goto (t := 95) dX0_gather_271 rfl ?_
              obtain ⟨h40, h41⟩ := h39
              exact r_mask [true, false, true, true, true, false, false] rfl (h41 hx2 hx3 h40 k0)
            · have h42 := h36.2 c38
              refine r_aload_n dX0_gather_236 rfl ?_
              refine r_getP (a := (o0 + 4)) dX0_gather_237 kf_RX0_22 (zB_lt hc0 hn) (zB_s hc0) rfl (k0.1 _ _ _ (zB_lt hc0 hn) (zB_p3 hc0)) ?_
              refine r_iload dX0_gather_240 rfl ?_
              refine r_aload_n dX0_gather_242 rfl ?_
              refine r_getI dX0_gather_243 kf_RX0_45 (zB_lt hc0 hn) (zB_s hc0) (Or.inl rfl) rfl ?_
              refine r_iastore dX0_gather_246 (zB_l3 hc0 hn) (zB_s3 hc0) h20.1 h20.2 ?_
              have k43 := zok_i (i := y11.toNat) (x := gI σ o0 10) k0 (zB_s3 hc0) (k0.2.1 _ _)
              refine r_aload_n dX0_gather_247 rfl ?_
              refine r_getP (a := (o0 + 3)) dX0_gather_248 kf_RX0_19 (zB_lt hc0 hn) (zB_s hc0) rfl (k43.1 _ _ _ (zB_lt hc0 hn) (zB_p2 hc0)) ?_
              refine r_aload_n dX0_gather_251 rfl ?_
              refine r_getI dX0_gather_252 kf_RX0_42 (zB_lt hc0 hn) (zB_s hc0) (Or.inl rfl) (gI_c (by omega)) ?_
              refine r_iload dX0_gather_255 rfl ?_
              obtain ⟨h44, h45⟩ := h42
              refine r_iastore dX0_gather_257 (zB_l2 hc0 hn) (zB_s2 hc0) h44.1 h44.2 ?_
              have k46 := zok_i (i := (gI σ o0 9).toNat) (x := y11) k43 (zB_s2 hc0) (by rw [e12]; exact (k0.2.1 _ _))
              refine r_aload_n dX0_gather_258 rfl ?_
              refine r_dup dX0_gather_259 rfl ?_
              refine r_getI dX0_gather_260 kf_RX0_42 (zB_lt hc0 hn) (zB_s hc0) (Or.inl rfl) ((gI_c (by omega)).trans (gI_c (by omega))) ?_
              refine r_iconst dX0_gather_263 ?_
              refine r_iadd dX0_gather_264 ?_
              obtain ⟨h47, h48⟩ := h45
              refine r_putI dX0_gather_265 kf_RX0_42 (zB_lt hc0 hn) (zB_s hc0) rfl (Or.inl rfl) ?_
              have k49 := zok_o (i := 9) (x := (gI σ o0 9) + 1) k46 (zB_s hc0) h47
              refine r_iinc dX0_gather_268 rfl rfl rfl ?_
              refine r_goto (t := 95) dX0_gather_271 rfl ?_
              obtain ⟨h50, h51⟩ := h48
              exact r_mask [true, false, true, true, true, false, false] rfl (h51 hx2 hx3 h50 k49)
          · have h52 := h33.2 c35
            refine r_aload_n dX0_gather_173 rfl ?_
            refine r_getP (a := (o0 + 5)) dX0_gather_174 kf_RX0_25 (zB_lt hc0 hn) (zB_s hc0) rfl (k0.1 _ _ _ (zB_lt hc0 hn) (zB_p4 hc0)) ?_
            refine r_iload dX0_gather_177 rfl ?_
            refine r_aload_n dX0_gather_179 rfl ?_
            refine r_getI dX0_gather_180 kf_RX0_45 (zB_lt hc0 hn) (zB_s hc0) (Or.inl rfl) rfl ?_
            refine r_iastore dX0_gather_183 (zB_l4 hc0 hn) (zB_s4 hc0) h20.1 h20.2 ?_
            have k53 := zok_i (i := y11.toNat) (x := gI σ o0 10) k0 (zB_s4 hc0) (k0.2.1 _ _)
            refine r_iload dX0_gather_184 rfl ?_
            refine r_if_lt (t := 206) dX0_gather_186 rfl (by rw [e32]; exact (k0.2.1 _ _))  (fun c54 => ?_) (fun c55 => ?_)
            · have h56 := h52.1 c54
              refine r_aload_n dX0_gather_206 rfl ?_
              refine r_iload dX0_gather_207 rfl ?_
              refine r_if_ne (t := 217) dX0_gather_209 rfl (by rw [e32]; exact (k0.2.1 _ _))  (fun c57 => ?_) (fun c58 => ?_)
              · have h59 := h56.1 c57
                refine r_aload_n dX0_gather_217 rfl ?_
                refine r_getI dX0_gather_218 kf_RX0_48 (zB_lt hc0 hn) (zB_s hc0) (Or.inl rfl) (gI_c (by omega)) ?_
                refine r_putI dX0_gather_221 kf_RX0_48 (zB_lt hc0 hn) (zB_s hc0) rfl (Or.inl rfl) ?_
                have k60 := zok_o (i := 11) (x := gI σ o0 11) k53 (zB_s hc0) (k0.2.1 _ _)
                refine r_goto (t := 268) dX0_gather_224 rfl ?_
                refine r_iinc dX0_gather_268 rfl rfl rfl ?_
                refine r_goto (t := 95) dX0_gather_271 rfl ?_
                obtain ⟨h61, h62⟩ := h59
                exact r_mask [true, false, true, true, true, false, false] rfl (h62 hx2 hx3 h61 k60)
              · have h63 := h56.2 c58
                refine r_iload dX0_gather_212 rfl ?_
                refine r_goto (t := 221) dX0_gather_214 rfl ?_
                refine r_putI dX0_gather_221 kf_RX0_48 (zB_lt hc0 hn) (zB_s hc0) rfl (Or.inl rfl) ?_
                have k64 := zok_o (i := 11) (x := y11) k53 (zB_s hc0) (by rw [e12]; exact (k0.2.1 _ _))
                refine r_goto (t := 268) dX0_gather_224 rfl ?_
                refine r_iinc dX0_gather_268 rfl rfl rfl ?_
                refine r_goto (t := 95) dX0_gather_271 rfl ?_
                obtain ⟨h65, h66⟩ := h63
                exact r_mask [true, false, true, true, true, false, false] rfl (h66 hx2 hx3 h65 k64)
            · have h67 := h52.2 c55
              refine r_iload dX0_gather_189 rfl ?_
              refine r_iconst dX0_gather_191 ?_
              refine r_icmp_gt (t := 206) dX0_gather_192 rfl (by rw [e32]; exact (k0.2.1 _ _)) (r32c rfl) (fun c68 => ?_) (fun c69 => ?_)
              · have h70 := h67.1 c68
                refine r_aload_n dX0_gather_206 rfl ?_
                refine r_iload dX0_gather_207 rfl ?_
                refine r_if_ne (t := 217) dX0_gather_209 rfl (by rw [e32]; exact (k0.2.1 _ _))  (fun c71 => ?_) (fun c72 => ?_)
                · have h73 := h70.1 c71
                  refine r_aload_n dX0_gather_217 rfl ?_
                  refine r_getI dX0_gather_218 kf_RX0_48 (zB_lt hc0 hn) (zB_s hc0) (Or.inl rfl) (gI_c (by omega)) ?_
                  refine r_putI dX0_gather_221 kf_RX0_48 (zB_lt hc0 hn) (zB_s hc0) rfl (Or.inl rfl) ?_
                  have k74 := zok_o (i := 11) (x := gI σ o0 11) k53 (zB_s hc0) (k0.2.1 _ _)
                  refine r_goto (t := 268) dX0_gather_224 rfl ?_
                  refine r_iinc dX0_gather_268 rfl rfl rfl ?_
                  refine r_goto (t := 95) dX0_gather_271 rfl ?_
                  obtain ⟨h75, h76⟩ := h73
                  exact r_mask [true, false, true, true, true, false, false] rfl (h76 hx2 hx3 h75 k74)
                · have h77 := h70.2 c72
                  refine r_iload dX0_gather_212 rfl ?_
                  refine r_goto (t := 221) dX0_gather_214 rfl ?_
                  refine r_putI dX0_gather_221 kf_RX0_48 (zB_lt hc0 hn) (zB_s hc0) rfl (Or.inl rfl) ?_
                  have k78 := zok_o (i := 11) (x := y11) k53 (zB_s hc0) (by rw [e12]; exact (k0.2.1 _ _))
                  refine r_goto (t := 268) dX0_gather_224 rfl ?_
                  refine r_iinc dX0_gather_268 rfl rfl rfl ?_
                  refine r_goto (t := 95) dX0_gather_271 rfl ?_
                  obtain ⟨h79, h80⟩ := h77
                  exact r_mask [true, false, true, true, true, false, false] rfl (h80 hx2 hx3 h79 k78)
              · have h81 := h67.2 c69
                refine r_aload_n dX0_gather_195 rfl ?_
                refine r_getP (a := (o0 + 6)) dX0_gather_196 kf_RX0_28 (zB_lt hc0 hn) (zB_s hc0) rfl (k53.1 _ _ _ (zB_lt hc0 hn) (zB_p5 hc0)) ?_
                refine r_iload dX0_gather_199 rfl ?_
                refine r_dup2 dX0_gather_201 rfl rfl ?_
                obtain ⟨h82, h83⟩ := h81
                refine r_ialoadE dX0_gather_202 (zB_l5 hc0 hn) (zB_s5 hc0) h82.1 h82.2 (gI_c (by omega)) ?_
                refine r_iconst dX0_gather_203 ?_
                refine r_iadd dX0_gather_204 ?_
                obtain ⟨h85, h86⟩ := h83
                refine r_iastore dX0_gather_205 (zB_l5 hc0 hn) (zB_s5 hc0) h82.1 h82.2 ?_
                have k84 := zok_i (i := y31.toNat) (x := (gI σ (o0 + 6) y31.toNat) + 1) k53 (zB_s5 hc0) h85
                refine r_aload_n dX0_gather_206 rfl ?_
                refine r_iload dX0_gather_207 rfl ?_
                refine r_if_ne (t := 217) dX0_gather_209 rfl (by rw [e32]; exact (k0.2.1 _ _))  (fun c87 => ?_) (fun c88 => ?_)
                · have h89 := h86.1 c87
                  refine r_aload_n dX0_gather_217 rfl ?_
                  refine r_getI dX0_gather_218 kf_RX0_48 (zB_lt hc0 hn) (zB_s hc0) (Or.inl rfl) ((gI_c (by omega)).trans (gI_c (by omega))) ?_
                  refine r_putI dX0_gather_221 kf_RX0_48 (zB_lt hc0 hn) (zB_s hc0) rfl (Or.inl rfl) ?_
                  have k90 := zok_o (i := 11) (x := gI σ o0 11) k84 (zB_s hc0) (k0.2.1 _ _)
                  refine r_goto (t := 268) dX0_gather_224 rfl ?_
                  refine r_iinc dX0_gather_268 rfl rfl rfl ?_
                  refine r_goto (t := 95) dX0_gather_271 rfl ?_
                  obtain ⟨h91, h92⟩ := h89
                  exact r_mask [true, false, true, true, true, false, false] rfl (h92 hx2 hx3 h91 k90)
                · have h93 := h86.2 c88
                  refine r_iload dX0_gather_212 rfl ?_
                  refine r_goto (t := 221) dX0_gather_214 rfl ?_
                  refine r_putI dX0_gather_221 kf_RX0_48 (zB_lt hc0 hn) (zB_s hc0) rfl (Or.inl rfl) ?_
                  have k94 := zok_o (i := 11) (x := y11) k84 (zB_s hc0) (by rw [e12]; exact (k0.2.1 _ _))
                  refine r_goto (t := 268) dX0_gather_224 rfl ?_
                  refine r_iinc dX0_gather_268 rfl rfl rfl ?_
                  refine r_goto (t := 95) dX0_gather_271 rfl ?_
                  obtain ⟨h95, h96⟩ := h93
                  exact r_mask [true, false, true, true, true, false, false] rfl (h96 hx2 hx3 h95 k94)
        · have h97 := h27.2 c29
          refine r_goto (t := 268) dX0_gather_152 rfl ?_
          refine r_iinc dX0_gather_268 rfl rfl rfl ?_
          refine r_goto (t := 95) dX0_gather_271 rfl ?_
          obtain ⟨h98, h99⟩ := h97
          exact r_mask [true, false, true, true, true, false, false] rfl (h99 hx2 hx3 h98 k0)
/-! StoneRoom$Board.gatherChain -/
theorem dX0_gatherChain_0 : decode M_X0_gatherChain.2.1 0 = .ok (.aload_n 0, 1) := by decide +kernel
theorem dX0_gatherChain_1 : decode M_X0_gatherChain.2.1 1 = .ok (.iload_n 1, 1) := by decide +kernel
theorem dX0_gatherChain_2 : decode M_X0_gatherChain.2.1 2 = .ok (.invokevirtual 86, 3) := by decide +kernel
theorem dX0_gatherChain_5 : decode M_X0_gatherChain.2.1 5 = .ok (.istore_n 2, 1) := by decide +kernel
theorem dX0_gatherChain_6 : decode M_X0_gatherChain.2.1 6 = .ok (.iload_n 2, 1) := by decide +kernel
theorem dX0_gatherChain_7 : decode M_X0_gatherChain.2.1 7 = .ok (.ifCond .le 11, 3) := by decide +kernel
theorem dX0_gatherChain_10 : decode M_X0_gatherChain.2.1 10 = .ok (.aload_n 0, 1) := by decide +kernel
theorem dX0_gatherChain_11 : decode M_X0_gatherChain.2.1 11 = .ok (.iload_n 1, 1) := by decide +kernel
theorem dX0_gatherChain_12 : decode M_X0_gatherChain.2.1 12 = .ok (.iconst 1, 1) := by decide +kernel
theorem dX0_gatherChain_13 : decode M_X0_gatherChain.2.1 13 = .ok (.iload_n 2, 1) := by decide +kernel
theorem dX0_gatherChain_14 : decode M_X0_gatherChain.2.1 14 = .ok (.ishl, 1) := by decide +kernel
theorem dX0_gatherChain_15 : decode M_X0_gatherChain.2.1 15 = .ok (.invokevirtual 93, 3) := by decide +kernel
theorem dX0_gatherChain_18 : decode M_X0_gatherChain.2.1 18 = .ok (.return_, 1) := by decide +kernel
theorem w_X0_gatherChain {X : ZX} {d n : Nat} {P : ZSto → Prop} {o0 : Nat} {x1 : Int} {σ : ZSto} (hn : 73 ≤ n) (hc0 : zIsB o0) (hx1 : R32 x1)
    (h : ZkI X M_X0_contentOf d n [.ref (zB X + o0), iV x1] σ (fun v1 σ2 => (v1 ≤ 0 → P σ2) ∧ (¬ (v1 ≤ 0) → ZkV X M_X0_gather d n [.ref (zB X + o0), iV x1, iV (shlI 1 v1)] σ2 (fun σ11 => P σ11)))) :
    ZkV X M_X0_gatherChain (d + 1) n [.ref (zB X + o0), iV x1] σ P := by
  refine zk_of (ls := [some (.ref (zB X + o0)), some (iV x1), none]) pl_RX0 (Nat.le_of_ble_eq_true rfl) rfl (fun k0 => ?_)
  unfold Zn
  refine r_aload_n dX0_gatherChain_0 rfl ?_
  refine r_iload_n dX0_gatherChain_1 rfl ?_
  refine n_callV (N := M_X0_contentOf) (As := [iV x1]) (st := []) dX0_gatherChain_2 mk_X0_contentOf km_RX0_86 kd_X0_contentOf rfl (zB_lt hc0 hn) (zB_s hc0) (q := (RX0, TX0, 13)) rfl rfl (zFits_rm d n n n (Nat.le_refl n)) (Nat.le_of_ble_eq_true rfl) rfl k0 h ?_
  rintro _ σ2 k3 ⟨v1, rfl, h4, h5⟩
  change Zm _ _ _ _ _ _ 5 _ [iV v1] _
  refine r_istore_n dX0_gatherChain_5 rfl rfl ?_
  refine r_iload_n dX0_gatherChain_6 rfl ?_
  refine r_if_le (t := 18) dX0_gatherChain_7 rfl h4  (fun c6 => ?_) (fun c7 => ?_)
  · have h8 := h5.1 c6
    exact r_return dX0_gatherChain_18 rfl ⟨k3, rfl, h8⟩
  · have h9 := h5.2 c7
    refine r_aload_n dX0_gatherChain_10 rfl ?_
    refine r_iload_n dX0_gatherChain_11 rfl ?_
    refine r_iconst dX0_gatherChain_12 ?_
    refine r_iload_n dX0_gatherChain_13 rfl ?_
    refine r_ishl dX0_gatherChain_14 ?_
    refine n_callV (N := M_X0_gather) (As := [iV x1, iV (shlI 1 v1)]) (st := []) dX0_gatherChain_15 mk_X0_gather km_RX0_93 kd_X0_gather rfl (zB_lt hc0 hn) (zB_s hc0) (q := (RX0, TX0, 13)) rfl rfl (zFits_rm d n n n (Nat.le_refl n)) (Nat.le_of_ble_eq_true rfl) rfl k3 h9 ?_
    rintro _ σ11 k12 ⟨rfl, h14⟩
    change Zm _ _ _ _ _ _ 18 _ [] _
    exact r_return dX0_gatherChain_18 rfl ⟨k12, rfl, h14⟩
/-! StoneRoom$Board.liberties -/
theorem dX0_liberties_0 : decode M_X0_liberties.2.1 0 = .ok (.aload_n 0, 1) := by decide +kernel
theorem dX0_liberties_1 : decode M_X0_liberties.2.1 1 = .ok (.getfield 28, 3) := by decide +kernel
theorem dX0_liberties_4 : decode M_X0_liberties.2.1 4 = .ok (.iconst 0, 1) := by decide +kernel
theorem dX0_liberties_5 : decode M_X0_liberties.2.1 5 = .ok (.iaload, 1) := by decide +kernel
theorem dX0_liberties_6 : decode M_X0_liberties.2.1 6 = .ok (.ireturn, 1) := by decide +kernel
theorem w_X0_liberties {X : ZX} {d n : Nat} {P : Int → ZSto → Prop} {o0 : Nat} {σ : ZSto} (hn : 73 ≤ n) (hc0 : zIsB o0) 
    (h : P (gI σ (o0 + 6) 0) σ) :
    ZkI X M_X0_liberties (d + 1) n [.ref (zB X + o0)] σ P := by
  refine zk_of (ls := [some (.ref (zB X + o0))]) pl_RX0 (Nat.le_of_ble_eq_true rfl) rfl (fun k0 => ?_)
  unfold Zn
  refine r_aload_n dX0_liberties_0 rfl ?_
  refine r_getP (a := (o0 + 6)) dX0_liberties_1 kf_RX0_28 (zB_lt hc0 hn) (zB_s hc0) rfl (k0.1 _ _ _ (zB_lt hc0 hn) (zB_p5 hc0)) ?_
  refine r_iconst dX0_liberties_4 ?_
  refine r_ialoadE dX0_liberties_5 (zB_l5 hc0 hn) (zB_s5 hc0) (by decide) (by decide) rfl ?_
  exact r_ireturn dX0_liberties_6 rfl ⟨k0, _, rfl, (k0.2.1 _ _), h⟩
/-! StoneRoom$Board.onRim -/
theorem dX0_onRim_0 : decode M_X0_onRim.2.1 0 = .ok (.aload_n 0, 1) := by decide +kernel
theorem dX0_onRim_1 : decode M_X0_onRim.2.1 1 = .ok (.iload_n 1, 1) := by decide +kernel
theorem dX0_onRim_2 : decode M_X0_onRim.2.1 2 = .ok (.invokevirtual 90, 3) := by decide +kernel
theorem dX0_onRim_5 : decode M_X0_onRim.2.1 5 = .ok (.ifCond .eq 17, 3) := by decide +kernel
theorem dX0_onRim_8 : decode M_X0_onRim.2.1 8 = .ok (.aload_n 0, 1) := by decide +kernel
theorem dX0_onRim_9 : decode M_X0_onRim.2.1 9 = .ok (.getfield 25, 3) := by decide +kernel
theorem dX0_onRim_12 : decode M_X0_onRim.2.1 12 = .ok (.iload_n 1, 1) := by decide +kernel
theorem dX0_onRim_13 : decode M_X0_onRim.2.1 13 = .ok (.iaload, 1) := by decide +kernel
theorem dX0_onRim_14 : decode M_X0_onRim.2.1 14 = .ok (.iload_n 2, 1) := by decide +kernel
theorem dX0_onRim_15 : decode M_X0_onRim.2.1 15 = .ok (.if_icmp .ne 7, 3) := by decide +kernel
theorem dX0_onRim_18 : decode M_X0_onRim.2.1 18 = .ok (.iconst 1, 1) := by decide +kernel
theorem dX0_onRim_19 : decode M_X0_onRim.2.1 19 = .ok (.goto 4, 3) := by decide +kernel
theorem dX0_onRim_22 : decode M_X0_onRim.2.1 22 = .ok (.iconst 0, 1) := by decide +kernel
theorem dX0_onRim_23 : decode M_X0_onRim.2.1 23 = .ok (.ireturn, 1) := by decide +kernel
theorem w_X0_onRim {X : ZX} {d n : Nat} {P : Int → ZSto → Prop} {o0 : Nat} {x1 : Int} {x2 : Int} {σ : ZSto} (hn : 73 ≤ n) (hc0 : zIsB o0) (hx1 : R32 x1) (hx2 : R32 x2)
    (h : ZkZ X M_X0_has d n [.ref (zB X + o0), iV x1] σ (fun v1 σ2 => (v1 = 0 → P 0 σ2) ∧ (¬ (v1 = 0) → (0 ≤ x1 ∧ x1 < 81) ∧ (¬ gI σ2 (o0 + 5) x1.toNat = x2 → P 0 σ2) ∧ (gI σ2 (o0 + 5) x1.toNat = x2 → P 1 σ2)))) :
    ZkZ X M_X0_onRim (d + 1) n [.ref (zB X + o0), iV x1, iV x2] σ P := by
  refine zk_of (ls := [some (.ref (zB X + o0)), some (iV x1), some (iV x2)]) pl_RX0 (Nat.le_of_ble_eq_true rfl) rfl (fun k0 => ?_)
  unfold Zn
  refine r_aload_n dX0_onRim_0 rfl ?_
  refine r_iload_n dX0_onRim_1 rfl ?_
  refine n_callV (N := M_X0_has) (As := [iV x1]) (st := []) dX0_onRim_2 mk_X0_has km_RX0_90 kd_X0_has rfl (zB_lt hc0 hn) (zB_s hc0) (q := (RX0, TX0, 13)) rfl rfl (zFits_rm d n n n (Nat.le_refl n)) (Nat.le_of_ble_eq_true rfl) rfl k0 h ?_
  rintro _ σ2 k3 ⟨v1, rfl, h4, h5⟩
  change Zm _ _ _ _ _ _ 5 _ [iV v1] _
  refine r_if_eq (t := 22) dX0_onRim_5 rfl (r32_z h4)  (fun c6 => ?_) (fun c7 => ?_)
  · have h8 := h5.1 c6
    refine r_iconst dX0_onRim_22 ?_
    exact r_zreturn dX0_onRim_23 rfl (Or.inl rfl) ⟨k3, _, rfl, (Or.inl rfl), h8⟩
  · have h9 := h5.2 c7
    refine r_aload_n dX0_onRim_8 rfl ?_
    refine r_getP (a := (o0 + 5)) dX0_onRim_9 kf_RX0_25 (zB_lt hc0 hn) (zB_s hc0) rfl (k3.1 _ _ _ (zB_lt hc0 hn) (zB_p4 hc0)) ?_
    refine r_iload_n dX0_onRim_12 rfl ?_
    obtain ⟨h10, h11⟩ := h9
    refine r_ialoadE dX0_onRim_13 (zB_l4 hc0 hn) (zB_s4 hc0) h10.1 h10.2 rfl ?_
    refine r_iload_n dX0_onRim_14 rfl ?_
    refine r_icmp_ne (t := 22) dX0_onRim_15 rfl (k3.2.1 _ _) hx2 (fun c12 => ?_) (fun c13 => ?_)
    · have h14 := h11.1 c12
      refine r_iconst dX0_onRim_22 ?_
      exact r_zreturn dX0_onRim_23 rfl (Or.inl rfl) ⟨k3, _, rfl, (Or.inl rfl), h14⟩
    · have h15 := h11.2 c13
      refine r_iconst dX0_onRim_18 ?_
      refine r_goto (t := 23) dX0_onRim_19 rfl ?_
      exact r_zreturn dX0_onRim_23 rfl (Or.inr rfl) ⟨k3, _, rfl, (Or.inr rfl), h15⟩
/-! StoneRoom$Board.gatheredSince -/
theorem dX0_gatheredSince_0 : decode M_X0_gatheredSince.2.1 0 = .ok (.aload_n 0, 1) := by decide +kernel
theorem dX0_gatheredSince_1 : decode M_X0_gatheredSince.2.1 1 = .ok (.iload_n 1, 1) := by decide +kernel
theorem dX0_gatheredSince_2 : decode M_X0_gatheredSince.2.1 2 = .ok (.invokevirtual 90, 3) := by decide +kernel
theorem dX0_gatheredSince_5 : decode M_X0_gatheredSince.2.1 5 = .ok (.ifCond .eq 17, 3) := by decide +kernel
theorem dX0_gatheredSince_8 : decode M_X0_gatheredSince.2.1 8 = .ok (.aload_n 0, 1) := by decide +kernel
theorem dX0_gatheredSince_9 : decode M_X0_gatheredSince.2.1 9 = .ok (.getfield 22, 3) := by decide +kernel
theorem dX0_gatheredSince_12 : decode M_X0_gatheredSince.2.1 12 = .ok (.iload_n 1, 1) := by decide +kernel
theorem dX0_gatheredSince_13 : decode M_X0_gatheredSince.2.1 13 = .ok (.iaload, 1) := by decide +kernel
theorem dX0_gatheredSince_14 : decode M_X0_gatheredSince.2.1 14 = .ok (.iload_n 2, 1) := by decide +kernel
theorem dX0_gatheredSince_15 : decode M_X0_gatheredSince.2.1 15 = .ok (.if_icmp .le 7, 3) := by decide +kernel
theorem dX0_gatheredSince_18 : decode M_X0_gatheredSince.2.1 18 = .ok (.iconst 1, 1) := by decide +kernel
theorem dX0_gatheredSince_19 : decode M_X0_gatheredSince.2.1 19 = .ok (.goto 4, 3) := by decide +kernel
theorem dX0_gatheredSince_22 : decode M_X0_gatheredSince.2.1 22 = .ok (.iconst 0, 1) := by decide +kernel
theorem dX0_gatheredSince_23 : decode M_X0_gatheredSince.2.1 23 = .ok (.ireturn, 1) := by decide +kernel
theorem w_X0_gatheredSince {X : ZX} {d n : Nat} {P : Int → ZSto → Prop} {o0 : Nat} {x1 : Int} {x2 : Int} {σ : ZSto} (hn : 73 ≤ n) (hc0 : zIsB o0) (hx1 : R32 x1) (hx2 : R32 x2)
    (h : ZkZ X M_X0_has d n [.ref (zB X + o0), iV x1] σ (fun v1 σ2 => (v1 = 0 → P 0 σ2) ∧ (¬ (v1 = 0) → (0 ≤ x1 ∧ x1 < 81) ∧ (gI σ2 (o0 + 4) x1.toNat ≤ x2 → P 0 σ2) ∧ (¬ (gI σ2 (o0 + 4) x1.toNat ≤ x2) → P 1 σ2)))) :
    ZkZ X M_X0_gatheredSince (d + 1) n [.ref (zB X + o0), iV x1, iV x2] σ P := by
  refine zk_of (ls := [some (.ref (zB X + o0)), some (iV x1), some (iV x2)]) pl_RX0 (Nat.le_of_ble_eq_true rfl) rfl (fun k0 => ?_)
  unfold Zn
  refine r_aload_n dX0_gatheredSince_0 rfl ?_
  refine r_iload_n dX0_gatheredSince_1 rfl ?_
  refine n_callV (N := M_X0_has) (As := [iV x1]) (st := []) dX0_gatheredSince_2 mk_X0_has km_RX0_90 kd_X0_has rfl (zB_lt hc0 hn) (zB_s hc0) (q := (RX0, TX0, 13)) rfl rfl (zFits_rm d n n n (Nat.le_refl n)) (Nat.le_of_ble_eq_true rfl) rfl k0 h ?_
  rintro _ σ2 k3 ⟨v1, rfl, h4, h5⟩
  change Zm _ _ _ _ _ _ 5 _ [iV v1] _
  refine r_if_eq (t := 22) dX0_gatheredSince_5 rfl (r32_z h4)  (fun c6 => ?_) (fun c7 => ?_)
  · have h8 := h5.1 c6
    refine r_iconst dX0_gatheredSince_22 ?_
    exact r_zreturn dX0_gatheredSince_23 rfl (Or.inl rfl) ⟨k3, _, rfl, (Or.inl rfl), h8⟩
  · have h9 := h5.2 c7
    refine r_aload_n dX0_gatheredSince_8 rfl ?_
    refine r_getP (a := (o0 + 4)) dX0_gatheredSince_9 kf_RX0_22 (zB_lt hc0 hn) (zB_s hc0) rfl (k3.1 _ _ _ (zB_lt hc0 hn) (zB_p3 hc0)) ?_
    refine r_iload_n dX0_gatheredSince_12 rfl ?_
    obtain ⟨h10, h11⟩ := h9
    refine r_ialoadE dX0_gatheredSince_13 (zB_l3 hc0 hn) (zB_s3 hc0) h10.1 h10.2 rfl ?_
    refine r_iload_n dX0_gatheredSince_14 rfl ?_
    refine r_icmp_le (t := 22) dX0_gatheredSince_15 rfl (k3.2.1 _ _) hx2 (fun c12 => ?_) (fun c13 => ?_)
    · have h14 := h11.1 c12
      refine r_iconst dX0_gatheredSince_22 ?_
      exact r_zreturn dX0_gatheredSince_23 rfl (Or.inl rfl) ⟨k3, _, rfl, (Or.inl rfl), h14⟩
    · have h15 := h11.2 c13
      refine r_iconst dX0_gatheredSince_18 ?_
      refine r_goto (t := 23) dX0_gatheredSince_19 rfl ?_
      exact r_zreturn dX0_gatheredSince_23 rfl (Or.inr rfl) ⟨k3, _, rfl, (Or.inr rfl), h15⟩
/-! StoneRoom$Board.leastGathered -/
theorem dX0_leastGathered_0 : decode M_X0_leastGathered.2.1 0 = .ok (.aload_n 0, 1) := by decide +kernel
theorem dX0_leastGathered_1 : decode M_X0_leastGathered.2.1 1 = .ok (.getfield 39, 3) := by decide +kernel
theorem dX0_leastGathered_4 : decode M_X0_leastGathered.2.1 4 = .ok (.istore_n 1, 1) := by decide +kernel
theorem dX0_leastGathered_5 : decode M_X0_leastGathered.2.1 5 = .ok (.iconst 0, 1) := by decide +kernel
theorem dX0_leastGathered_6 : decode M_X0_leastGathered.2.1 6 = .ok (.istore_n 2, 1) := by decide +kernel
theorem dX0_leastGathered_7 : decode M_X0_leastGathered.2.1 7 = .ok (.iload_n 2, 1) := by decide +kernel
theorem dX0_leastGathered_8 : decode M_X0_leastGathered.2.1 8 = .ok (.aload_n 0, 1) := by decide +kernel
theorem dX0_leastGathered_9 : decode M_X0_leastGathered.2.1 9 = .ok (.getfield 42, 3) := by decide +kernel
theorem dX0_leastGathered_12 : decode M_X0_leastGathered.2.1 12 = .ok (.if_icmp .ge 26, 3) := by decide +kernel
theorem dX0_leastGathered_15 : decode M_X0_leastGathered.2.1 15 = .ok (.iload_n 2, 1) := by decide +kernel
theorem dX0_leastGathered_16 : decode M_X0_leastGathered.2.1 16 = .ok (.bipush 81, 2) := by decide +kernel
theorem dX0_leastGathered_18 : decode M_X0_leastGathered.2.1 18 = .ok (.if_icmp .ge 20, 3) := by decide +kernel
theorem dX0_leastGathered_21 : decode M_X0_leastGathered.2.1 21 = .ok (.iload_n 1, 1) := by decide +kernel
theorem dX0_leastGathered_22 : decode M_X0_leastGathered.2.1 22 = .ok (.aload_n 0, 1) := by decide +kernel
theorem dX0_leastGathered_23 : decode M_X0_leastGathered.2.1 23 = .ok (.getfield 19, 3) := by decide +kernel
theorem dX0_leastGathered_26 : decode M_X0_leastGathered.2.1 26 = .ok (.iload_n 2, 1) := by decide +kernel
theorem dX0_leastGathered_27 : decode M_X0_leastGathered.2.1 27 = .ok (.iaload, 1) := by decide +kernel
theorem dX0_leastGathered_28 : decode M_X0_leastGathered.2.1 28 = .ok (.invokestatic 96, 3) := by decide +kernel
theorem dX0_leastGathered_31 : decode M_X0_leastGathered.2.1 31 = .ok (.istore_n 1, 1) := by decide +kernel
theorem dX0_leastGathered_32 : decode M_X0_leastGathered.2.1 32 = .ok (.iinc 2 1, 3) := by decide +kernel
theorem dX0_leastGathered_35 : decode M_X0_leastGathered.2.1 35 = .ok (.goto (-28), 3) := by decide +kernel
theorem dX0_leastGathered_38 : decode M_X0_leastGathered.2.1 38 = .ok (.iload_n 1, 1) := by decide +kernel
theorem dX0_leastGathered_39 : decode M_X0_leastGathered.2.1 39 = .ok (.ireturn, 1) := by decide +kernel
def L_X0_leastGathered_7 (X : ZX) (d n : Nat) (P : Option Value → ZSto → Prop) (o0 : Nat) (x1 : Int) (x2 : Int) (σ : ZSto) : Prop := R32 x1 → R32 x2 → ZOk n σ → Zn X M_X0_leastGathered d n P 7 [some (.ref (zB X + o0)), some (iV x1), some (iV x2)] [] σ
theorem w_X0_leastGathered {X : ZX} {d n : Nat} {P : Int → ZSto → Prop} {o0 : Nat} {σ : ZSto} (hn : 73 ≤ n) (hc0 : zIsB o0) 
    (h : (∀ y1 : Int, y1 = gI σ o0 8 → L_X0_leastGathered_7 X d n (zpI P) o0 y1 0 σ)) :
    ZkI X M_X0_leastGathered (d + 1) n [.ref (zB X + o0)] σ P := by
  refine zk_of (ls := [some (.ref (zB X + o0)), none, none]) pl_RX0 (Nat.le_of_ble_eq_true rfl) rfl (fun k0 => ?_)
  unfold Zn
  refine r_aload_n dX0_leastGathered_0 rfl ?_
  refine r_getI dX0_leastGathered_1 kf_RX0_39 (zB_lt hc0 hn) (zB_s hc0) (Or.inl rfl) rfl ?_
  refine r_name (fun y1 e2 => ?_)
  have h3 := h y1 e2
  refine r_istore_n dX0_leastGathered_4 rfl rfl ?_
  refine r_iconst dX0_leastGathered_5 ?_
  refine r_istore_n dX0_leastGathered_6 rfl rfl ?_
  exact r_mask [true, true, true] rfl (h3 (by rw [e2]; exact (k0.2.1 _ _)) (r32c rfl) k0)
theorem b_X0_leastGathered_7 {X : ZX} {d n : Nat} {P : Int → ZSto → Prop} {o0 : Nat} {x1 : Int} {x2 : Int} {σ : ZSto} (hn : 73 ≤ n) (hc0 : zIsB o0)
    (h : (gI σ o0 9 ≤ x2 → P x1 σ) ∧ (¬ (gI σ o0 9 ≤ x2) → (81 ≤ x2 → P x1 σ) ∧ (¬ (81 ≤ x2) → (0 ≤ x2 ∧ x2 < 81) ∧ (∀ y11 : Int, y11 = minI x1 (gI σ (o0 + 3) x2.toNat) → R32 (x2 + 1) ∧ L_X0_leastGathered_7 X d n (zpI P) o0 y11 (x2 + 1) σ)))) :
    L_X0_leastGathered_7 X d n (zpI P) o0 x1 x2 σ := by
  intro hx1 hx2 k0
  unfold Zn
  refine r_iload_n dX0_leastGathered_7 rfl ?_
  refine r_aload_n dX0_leastGathered_8 rfl ?_
  refine r_getI dX0_leastGathered_9 kf_RX0_42 (zB_lt hc0 hn) (zB_s hc0) (Or.inl rfl) rfl ?_
  refine r_icmp_ge (t := 38) dX0_leastGathered_12 rfl hx2 (k0.2.1 _ _) (fun c1 => ?_) (fun c2 => ?_)
  · have h3 := h.1 c1
    refine r_iload_n dX0_leastGathered_38 rfl ?_
    exact r_ireturn dX0_leastGathered_39 rfl ⟨k0, _, rfl, hx1, h3⟩
  · have h4 := h.2 c2
    refine r_iload_n dX0_leastGathered_15 rfl ?_
    refine r_bipush dX0_leastGathered_16 rfl ?_
    refine r_icmp_ge (t := 38) dX0_leastGathered_18 rfl hx2 (r32c rfl) (fun c5 => ?_) (fun c6 => ?_)
    · have h7 := h4.1 c5
      refine r_iload_n dX0_leastGathered_38 rfl ?_
      exact r_ireturn dX0_leastGathered_39 rfl ⟨k0, _, rfl, hx1, h7⟩
    · have h8 := h4.2 c6
      refine r_iload_n dX0_leastGathered_21 rfl ?_
      refine r_aload_n dX0_leastGathered_22 rfl ?_
      refine r_getP (a := (o0 + 3)) dX0_leastGathered_23 kf_RX0_19 (zB_lt hc0 hn) (zB_s hc0) rfl (k0.1 _ _ _ (zB_lt hc0 hn) (zB_p2 hc0)) ?_
      refine r_iload_n dX0_leastGathered_26 rfl ?_
      obtain ⟨h9, h10⟩ := h8
      refine r_ialoadE dX0_leastGathered_27 (zB_l2 hc0 hn) (zB_s2 hc0) h9.1 h9.2 rfl ?_
      refine r_mmin dX0_leastGathered_28 ka_RX0_96 kq_min hx1 (k0.2.1 _ _) (zFits_rm d n n n (Nat.le_refl n)) (Nat.le_of_ble_eq_true rfl) ?_
      refine r_name (fun y11 e12 => ?_)
      have h13 := h10 y11 e12
      refine r_istore_n dX0_leastGathered_31 rfl rfl ?_
      refine r_iinc dX0_leastGathered_32 rfl rfl rfl ?_
      refine r_goto (t := 7) dX0_leastGathered_35 rfl ?_
      obtain ⟨h14, h15⟩ := h13
      exact r_mask [true, true, true] rfl (h15 (by rw [e12]; exact (r32_min hx1 (k0.2.1 _ _))) h14 k0)
/-! StoneRoom$Board.nthLiberty -/
theorem dX0_nthLiberty_0 : decode M_X0_nthLiberty.2.1 0 = .ok (.iload_n 1, 1) := by decide +kernel
theorem dX0_nthLiberty_1 : decode M_X0_nthLiberty.2.1 1 = .ok (.istore_n 2, 1) := by decide +kernel
theorem dX0_nthLiberty_2 : decode M_X0_nthLiberty.2.1 2 = .ok (.iconst 0, 1) := by decide +kernel
theorem dX0_nthLiberty_3 : decode M_X0_nthLiberty.2.1 3 = .ok (.istore_n 3, 1) := by decide +kernel
theorem dX0_nthLiberty_4 : decode M_X0_nthLiberty.2.1 4 = .ok (.iload_n 3, 1) := by decide +kernel
theorem dX0_nthLiberty_5 : decode M_X0_nthLiberty.2.1 5 = .ok (.aload_n 0, 1) := by decide +kernel
theorem dX0_nthLiberty_6 : decode M_X0_nthLiberty.2.1 6 = .ok (.getfield 39, 3) := by decide +kernel
theorem dX0_nthLiberty_9 : decode M_X0_nthLiberty.2.1 9 = .ok (.if_icmp .ge 40, 3) := by decide +kernel
theorem dX0_nthLiberty_12 : decode M_X0_nthLiberty.2.1 12 = .ok (.aload_n 0, 1) := by decide +kernel
theorem dX0_nthLiberty_13 : decode M_X0_nthLiberty.2.1 13 = .ok (.getfield 9, 3) := by decide +kernel
theorem dX0_nthLiberty_16 : decode M_X0_nthLiberty.2.1 16 = .ok (.iload_n 3, 1) := by decide +kernel
theorem dX0_nthLiberty_17 : decode M_X0_nthLiberty.2.1 17 = .ok (.baload, 1) := by decide +kernel
theorem dX0_nthLiberty_18 : decode M_X0_nthLiberty.2.1 18 = .ok (.ifCond .ne 25, 3) := by decide +kernel
theorem dX0_nthLiberty_21 : decode M_X0_nthLiberty.2.1 21 = .ok (.aload_n 0, 1) := by decide +kernel
theorem dX0_nthLiberty_22 : decode M_X0_nthLiberty.2.1 22 = .ok (.getfield 25, 3) := by decide +kernel
theorem dX0_nthLiberty_25 : decode M_X0_nthLiberty.2.1 25 = .ok (.iload_n 3, 1) := by decide +kernel
theorem dX0_nthLiberty_26 : decode M_X0_nthLiberty.2.1 26 = .ok (.iaload, 1) := by decide +kernel
theorem dX0_nthLiberty_27 : decode M_X0_nthLiberty.2.1 27 = .ok (.aload_n 0, 1) := by decide +kernel
theorem dX0_nthLiberty_28 : decode M_X0_nthLiberty.2.1 28 = .ok (.getfield 45, 3) := by decide +kernel
theorem dX0_nthLiberty_31 : decode M_X0_nthLiberty.2.1 31 = .ok (.if_icmp .ne 12, 3) := by decide +kernel
theorem dX0_nthLiberty_34 : decode M_X0_nthLiberty.2.1 34 = .ok (.iload_n 2, 1) := by decide +kernel
theorem dX0_nthLiberty_35 : decode M_X0_nthLiberty.2.1 35 = .ok (.ifCond .ne 5, 3) := by decide +kernel
theorem dX0_nthLiberty_38 : decode M_X0_nthLiberty.2.1 38 = .ok (.iload_n 3, 1) := by decide +kernel
theorem dX0_nthLiberty_39 : decode M_X0_nthLiberty.2.1 39 = .ok (.ireturn, 1) := by decide +kernel
theorem dX0_nthLiberty_40 : decode M_X0_nthLiberty.2.1 40 = .ok (.iinc 2 (-1), 3) := by decide +kernel
theorem dX0_nthLiberty_43 : decode M_X0_nthLiberty.2.1 43 = .ok (.iinc 3 1, 3) := by decide +kernel
theorem dX0_nthLiberty_46 : decode M_X0_nthLiberty.2.1 46 = .ok (.goto (-42), 3) := by decide +kernel
theorem dX0_nthLiberty_49 : decode M_X0_nthLiberty.2.1 49 = .ok (.iconst (-1), 1) := by decide +kernel
theorem dX0_nthLiberty_50 : decode M_X0_nthLiberty.2.1 50 = .ok (.ireturn, 1) := by decide +kernel
def L_X0_nthLiberty_4 (X : ZX) (d n : Nat) (P : Option Value → ZSto → Prop) (o0 : Nat) (x2 : Int) (x3 : Int) (σ : ZSto) : Prop := R32 x2 → R32 x3 → ZOk n σ → Zn X M_X0_nthLiberty d n P 4 [some (.ref (zB X + o0)), none, some (iV x2), some (iV x3)] [] σ
theorem w_X0_nthLiberty {X : ZX} {d n : Nat} {P : Int → ZSto → Prop} {o0 : Nat} {x1 : Int} {σ : ZSto} (hn : 73 ≤ n) (hc0 : zIsB o0) (hx1 : R32 x1)
    (h : L_X0_nthLiberty_4 X d n (zpI P) o0 x1 0 σ) :
    ZkI X M_X0_nthLiberty (d + 1) n [.ref (zB X + o0), iV x1] σ P := by
  refine zk_of (ls := [some (.ref (zB X + o0)), some (iV x1), none, none]) pl_RX0 (Nat.le_of_ble_eq_true rfl) rfl (fun k0 => ?_)
  unfold Zn
  refine r_iload_n dX0_nthLiberty_0 rfl ?_
  refine r_istore_n dX0_nthLiberty_1 rfl rfl ?_
  refine r_iconst dX0_nthLiberty_2 ?_
  refine r_istore_n dX0_nthLiberty_3 rfl rfl ?_
  exact r_mask [true, false, true, true] rfl (h hx1 (r32c rfl) k0)
theorem b_X0_nthLiberty_4 {X : ZX} {d n : Nat} {P : Int → ZSto → Prop} {o0 : Nat} {x2 : Int} {x3 : Int} {σ : ZSto} (hn : 73 ≤ n) (hc0 : zIsB o0)
    (h : (gI σ o0 8 ≤ x3 → P ((-1)) σ) ∧ (¬ (gI σ o0 8 ≤ x3) → (0 ≤ x3 ∧ x3 < 81) ∧ (¬ gI σ (o0 + 1) x3.toNat = 0 → R32 (x3 + 1) ∧ L_X0_nthLiberty_4 X d n (zpI P) o0 x2 (x3 + 1) σ) ∧ (gI σ (o0 + 1) x3.toNat = 0 → (¬ gI σ (o0 + 5) x3.toNat = gI σ o0 10 → R32 (x3 + 1) ∧ L_X0_nthLiberty_4 X d n (zpI P) o0 x2 (x3 + 1) σ) ∧ (gI σ (o0 + 5) x3.toNat = gI σ o0 10 → (¬ x2 = 0 → R32 (x2 + (-1)) ∧ R32 (x3 + 1) ∧ L_X0_nthLiberty_4 X d n (zpI P) o0 (x2 + (-1)) (x3 + 1) σ) ∧ (x2 = 0 → P x3 σ))))) :
    L_X0_nthLiberty_4 X d n (zpI P) o0 x2 x3 σ := by
  intro hx2 hx3 k0
  unfold Zn
  refine r_iload_n dX0_nthLiberty_4 rfl ?_
  refine r_aload_n dX0_nthLiberty_5 rfl ?_
  refine r_getI dX0_nthLiberty_6 kf_RX0_39 (zB_lt hc0 hn) (zB_s hc0) (Or.inl rfl) rfl ?_
  refine r_icmp_ge (t := 49) dX0_nthLiberty_9 rfl hx3 (k0.2.1 _ _) (fun c1 => ?_) (fun c2 => ?_)
  · have h3 := h.1 c1
    refine r_iconst dX0_nthLiberty_49 ?_
    exact r_ireturn dX0_nthLiberty_50 rfl ⟨k0, _, rfl, (r32c rfl), h3⟩
  · have h4 := h.2 c2
    refine r_aload_n dX0_nthLiberty_12 rfl ?_
    refine r_getP (a := (o0 + 1)) dX0_nthLiberty_13 kf_RX0_9 (zB_lt hc0 hn) (zB_s hc0) rfl (k0.1 _ _ _ (zB_lt hc0 hn) (zB_p0 hc0)) ?_
    refine r_iload_n dX0_nthLiberty_16 rfl ?_
    obtain ⟨h5, h6⟩ := h4
    refine r_baloadE dX0_nthLiberty_17 (zB_l0 hc0 hn) (zB_s0 hc0) h5.1 h5.2 rfl ?_
    refine r_if_ne (t := 43) dX0_nthLiberty_18 rfl (k0.2.1 _ _)  (fun c7 => ?_) (fun c8 => ?_)
    · have h9 := h6.1 c7
      refine r_iinc dX0_nthLiberty_43 rfl rfl rfl ?_
      refine r_goto (t := 4) dX0_nthLiberty_46 rfl ?_
      obtain ⟨h10, h11⟩ := h9
      exact r_mask [true, false, true, true] rfl (h11 hx2 h10 k0)
    · have h12 := h6.2 c8
      refine r_aload_n dX0_nthLiberty_21 rfl ?_
      refine r_getP (a := (o0 + 5)) dX0_nthLiberty_22 kf_RX0_25 (zB_lt hc0 hn) (zB_s hc0) rfl (k0.1 _ _ _ (zB_lt hc0 hn) (zB_p4 hc0)) ?_
      refine r_iload_n dX0_nthLiberty_25 rfl ?_
      refine r_ialoadE dX0_nthLiberty_26 (zB_l4 hc0 hn) (zB_s4 hc0) h5.1 h5.2 rfl ?_
      refine r_aload_n dX0_nthLiberty_27 rfl ?_
      refine r_getI dX0_nthLiberty_28 kf_RX0_45 (zB_lt hc0 hn) (zB_s hc0) (Or.inl rfl) rfl ?_
      refine r_icmp_ne (t := 43) dX0_nthLiberty_31 rfl (k0.2.1 _ _) (k0.2.1 _ _) (fun c13 => ?_) (fun c14 => ?_)
      · have h15 := h12.1 c13
        refine r_iinc dX0_nthLiberty_43 rfl rfl rfl ?_
        refine r_goto (t := 4) dX0_nthLiberty_46 rfl ?_
        obtain ⟨h16, h17⟩ := h15
        exact r_mask [true, false, true, true] rfl (h17 hx2 h16 k0)
      · have h18 := h12.2 c14
        refine r_iload_n dX0_nthLiberty_34 rfl ?_
        refine r_if_ne (t := 40) dX0_nthLiberty_35 rfl hx2  (fun c19 => ?_) (fun c20 => ?_)
        · have h21 := h18.1 c19
          refine r_iinc dX0_nthLiberty_40 rfl rfl rfl ?_
          refine r_iinc dX0_nthLiberty_43 rfl rfl rfl ?_
          refine r_goto (t := 4) dX0_nthLiberty_46 rfl ?_
          obtain ⟨h22, h23⟩ := h21
          obtain ⟨h24, h25⟩ := h23
          exact r_mask [true, false, true, true] rfl (h25 h22 h24 k0)
        · have h26 := h18.2 c20
          refine r_iload_n dX0_nthLiberty_38 rfl ?_
          exact r_ireturn dX0_nthLiberty_39 rfl ⟨k0, _, rfl, hx3, h26⟩
/-! StoneRoom$Board.put -/
theorem dX0_put_0 : decode M_X0_put.2.1 0 = .ok (.iload_n 1, 1) := by decide +kernel
theorem dX0_put_1 : decode M_X0_put.2.1 1 = .ok (.ifCond .lt 11, 3) := by decide +kernel
theorem dX0_put_4 : decode M_X0_put.2.1 4 = .ok (.iload_n 1, 1) := by decide +kernel
theorem dX0_put_5 : decode M_X0_put.2.1 5 = .ok (.aload_n 0, 1) := by decide +kernel
theorem dX0_put_6 : decode M_X0_put.2.1 6 = .ok (.getfield 39, 3) := by decide +kernel
theorem dX0_put_9 : decode M_X0_put.2.1 9 = .ok (.if_icmp .lt 5, 3) := by decide +kernel
theorem dX0_put_12 : decode M_X0_put.2.1 12 = .ok (.iconst 0, 1) := by decide +kernel
theorem dX0_put_13 : decode M_X0_put.2.1 13 = .ok (.ireturn, 1) := by decide +kernel
theorem dX0_put_14 : decode M_X0_put.2.1 14 = .ok (.iload_n 2, 1) := by decide +kernel
theorem dX0_put_15 : decode M_X0_put.2.1 15 = .ok (.invokestatic 102, 3) := by decide +kernel
theorem dX0_put_18 : decode M_X0_put.2.1 18 = .ok (.istore_n 3, 1) := by decide +kernel
theorem dX0_put_19 : decode M_X0_put.2.1 19 = .ok (.aload_n 0, 1) := by decide +kernel
theorem dX0_put_20 : decode M_X0_put.2.1 20 = .ok (.getfield 9, 3) := by decide +kernel
theorem dX0_put_23 : decode M_X0_put.2.1 23 = .ok (.iload_n 1, 1) := by decide +kernel
theorem dX0_put_24 : decode M_X0_put.2.1 24 = .ok (.iload_n 2, 1) := by decide +kernel
theorem dX0_put_25 : decode M_X0_put.2.1 25 = .ok (.i2b, 1) := by decide +kernel
theorem dX0_put_26 : decode M_X0_put.2.1 26 = .ok (.bastore, 1) := by decide +kernel
theorem dX0_put_27 : decode M_X0_put.2.1 27 = .ok (.aload_n 0, 1) := by decide +kernel
theorem dX0_put_28 : decode M_X0_put.2.1 28 = .ok (.iconst 0, 1) := by decide +kernel
theorem dX0_put_29 : decode M_X0_put.2.1 29 = .ok (.putfield 51, 3) := by decide +kernel
theorem dX0_put_32 : decode M_X0_put.2.1 32 = .ok (.iconst 0, 1) := by decide +kernel
theorem dX0_put_33 : decode M_X0_put.2.1 33 = .ok (.istore 4, 2) := by decide +kernel
theorem dX0_put_35 : decode M_X0_put.2.1 35 = .ok (.iload 4, 2) := by decide +kernel
theorem dX0_put_37 : decode M_X0_put.2.1 37 = .ok (.iconst 4, 1) := by decide +kernel
theorem dX0_put_38 : decode M_X0_put.2.1 38 = .ok (.if_icmp .ge 41, 3) := by decide +kernel
theorem dX0_put_41 : decode M_X0_put.2.1 41 = .ok (.aload_n 0, 1) := by decide +kernel
theorem dX0_put_42 : decode M_X0_put.2.1 42 = .ok (.iload_n 1, 1) := by decide +kernel
theorem dX0_put_43 : decode M_X0_put.2.1 43 = .ok (.iload 4, 2) := by decide +kernel
theorem dX0_put_45 : decode M_X0_put.2.1 45 = .ok (.invokevirtual 105, 3) := by decide +kernel
theorem dX0_put_48 : decode M_X0_put.2.1 48 = .ok (.istore 5, 2) := by decide +kernel
theorem dX0_put_50 : decode M_X0_put.2.1 50 = .ok (.aload_n 0, 1) := by decide +kernel
theorem dX0_put_51 : decode M_X0_put.2.1 51 = .ok (.iload 5, 2) := by decide +kernel
theorem dX0_put_53 : decode M_X0_put.2.1 53 = .ok (.invokevirtual 86, 3) := by decide +kernel
theorem dX0_put_56 : decode M_X0_put.2.1 56 = .ok (.iload_n 3, 1) := by decide +kernel
theorem dX0_put_57 : decode M_X0_put.2.1 57 = .ok (.if_icmp .ne 16, 3) := by decide +kernel
theorem dX0_put_60 : decode M_X0_put.2.1 60 = .ok (.aload_n 0, 1) := by decide +kernel
theorem dX0_put_61 : decode M_X0_put.2.1 61 = .ok (.iload 5, 2) := by decide +kernel
theorem dX0_put_63 : decode M_X0_put.2.1 63 = .ok (.iconst 1, 1) := by decide +kernel
theorem dX0_put_64 : decode M_X0_put.2.1 64 = .ok (.iload_n 3, 1) := by decide +kernel
theorem dX0_put_65 : decode M_X0_put.2.1 65 = .ok (.ishl, 1) := by decide +kernel
theorem dX0_put_66 : decode M_X0_put.2.1 66 = .ok (.invokevirtual 93, 3) := by decide +kernel
theorem dX0_put_69 : decode M_X0_put.2.1 69 = .ok (.aload_n 0, 1) := by decide +kernel
theorem dX0_put_70 : decode M_X0_put.2.1 70 = .ok (.invokevirtual 108, 3) := by decide +kernel
theorem dX0_put_73 : decode M_X0_put.2.1 73 = .ok (.iinc 4 1, 3) := by decide +kernel
theorem dX0_put_76 : decode M_X0_put.2.1 76 = .ok (.goto (-41), 3) := by decide +kernel
theorem dX0_put_79 : decode M_X0_put.2.1 79 = .ok (.aload_n 0, 1) := by decide +kernel
theorem dX0_put_80 : decode M_X0_put.2.1 80 = .ok (.iload_n 1, 1) := by decide +kernel
theorem dX0_put_81 : decode M_X0_put.2.1 81 = .ok (.iconst 1, 1) := by decide +kernel
theorem dX0_put_82 : decode M_X0_put.2.1 82 = .ok (.iload_n 2, 1) := by decide +kernel
theorem dX0_put_83 : decode M_X0_put.2.1 83 = .ok (.ishl, 1) := by decide +kernel
theorem dX0_put_84 : decode M_X0_put.2.1 84 = .ok (.invokevirtual 93, 3) := by decide +kernel
theorem dX0_put_87 : decode M_X0_put.2.1 87 = .ok (.aload_n 0, 1) := by decide +kernel
theorem dX0_put_88 : decode M_X0_put.2.1 88 = .ok (.invokevirtual 111, 3) := by decide +kernel
theorem dX0_put_91 : decode M_X0_put.2.1 91 = .ok (.ifCond .le 7, 3) := by decide +kernel
theorem dX0_put_94 : decode M_X0_put.2.1 94 = .ok (.iconst 1, 1) := by decide +kernel
theorem dX0_put_95 : decode M_X0_put.2.1 95 = .ok (.goto 4, 3) := by decide +kernel
theorem dX0_put_98 : decode M_X0_put.2.1 98 = .ok (.iconst 0, 1) := by decide +kernel
theorem dX0_put_99 : decode M_X0_put.2.1 99 = .ok (.ireturn, 1) := by decide +kernel
def L_X0_put_35 (X : ZX) (d n : Nat) (P : Option Value → ZSto → Prop) (o0 : Nat) (x1 : Int) (x2 : Int) (x3 : Int) (x4 : Int) (σ : ZSto) : Prop := R32 x1 → R32 x2 → R32 x3 → R32 x4 → ZOk n σ → Zn X M_X0_put d n P 35 [some (.ref (zB X + o0)), some (iV x1), some (iV x2), some (iV x3), some (iV x4), none] [] σ
theorem w_X0_put {X : ZX} {d n : Nat} {P : Int → ZSto → Prop} {o0 : Nat} {x1 : Int} {x2 : Int} {σ : ZSto} (hn : 73 ≤ n) (hc0 : zIsB o0) (hx1 : R32 x1) (hx2 : R32 x2)
    (h : (x1 < 0 → P 0 σ) ∧ (¬ (x1 < 0) → (x1 < gI σ o0 8 → ZkI X M_X9_otherColour d n [iV x2] σ (fun v8 σ9 => (0 ≤ x1 ∧ x1 < 81) ∧ L_X0_put_35 X d n (zpZ P) o0 x1 x2 v8 0 (sI (sI σ9 (o0 + 1) x1.toNat (w8 x2)) o0 12 0))) ∧ (¬ (x1 < gI σ o0 8) → P 0 σ))) :
    ZkZ X M_X0_put (d + 1) n [.ref (zB X + o0), iV x1, iV x2] σ P := by
  refine zk_of (ls := [some (.ref (zB X + o0)), some (iV x1), some (iV x2), none, none, none]) pl_RX0 (Nat.le_of_ble_eq_true rfl) rfl (fun k0 => ?_)
  unfold Zn
  refine r_iload_n dX0_put_0 rfl ?_
  refine r_if_lt (t := 12) dX0_put_1 rfl hx1  (fun c1 => ?_) (fun c2 => ?_)
  · have h3 := h.1 c1
    refine r_iconst dX0_put_12 ?_
    exact r_zreturn dX0_put_13 rfl (Or.inl rfl) ⟨k0, _, rfl, (Or.inl rfl), h3⟩
  · have h4 := h.2 c2
    refine r_iload_n dX0_put_4 rfl ?_
    refine r_aload_n dX0_put_5 rfl ?_
    refine r_getI dX0_put_6 kf_RX0_39 (zB_lt hc0 hn) (zB_s hc0) (Or.inl rfl) rfl ?_
    refine r_icmp_lt (t := 14) dX0_put_9 rfl hx1 (k0.2.1 _ _) (fun c5 => ?_) (fun c6 => ?_)
    · have h7 := h4.1 c5
      refine r_iload_n dX0_put_14 rfl ?_
      refine n_callS (N := M_X9_otherColour) (As := [iV x2]) (st := []) dX0_put_15 mk_X9_otherColour km_RX0_102 kd_X9_otherColour rfl (zFits_rm d n n n (Nat.le_refl n)) (Nat.le_of_ble_eq_true rfl) rfl k0 h7 ?_
      rintro _ σ9 k10 ⟨v8, rfl, h11, h12⟩
      change Zm _ _ _ _ _ _ 18 _ [iV v8] _
      refine r_istore_n dX0_put_18 rfl rfl ?_
      refine r_aload_n dX0_put_19 rfl ?_
      refine r_getP (a := (o0 + 1)) dX0_put_20 kf_RX0_9 (zB_lt hc0 hn) (zB_s hc0) rfl (k10.1 _ _ _ (zB_lt hc0 hn) (zB_p0 hc0)) ?_
      refine r_iload_n dX0_put_23 rfl ?_
      refine r_iload_n dX0_put_24 rfl ?_
      refine r_i2b dX0_put_25 ?_
      obtain ⟨h13, h14⟩ := h12
      refine r_bastore dX0_put_26 (zB_l0 hc0 hn) (zB_s0 hc0) h13.1 h13.2 (w8_lo _) (w8_hi _) ?_
      have k15 := zok_b (i := x1.toNat) (x := w8 x2) k10 (zB_s0 hc0) (w8_lo _) (w8_hi _)
      refine r_aload_n dX0_put_27 rfl ?_
      refine r_iconst dX0_put_28 ?_
      refine r_putI dX0_put_29 kf_RX0_51 (zB_lt hc0 hn) (zB_s hc0) rfl (Or.inl rfl) ?_
      have k16 := zok_o (i := 12) (x := 0) k15 (zB_s hc0) (r32c rfl)
      refine r_iconst dX0_put_32 ?_
      refine r_istore dX0_put_33 rfl rfl ?_
      exact r_mask [true, true, true, true, true, false] rfl (h14 hx1 hx2 h11 (r32c rfl) k16)
    · have h17 := h4.2 c6
      refine r_iconst dX0_put_12 ?_
      exact r_zreturn dX0_put_13 rfl (Or.inl rfl) ⟨k0, _, rfl, (Or.inl rfl), h17⟩
theorem b_X0_put_35 {X : ZX} {d n : Nat} {P : Int → ZSto → Prop} {o0 : Nat} {x1 : Int} {x2 : Int} {x3 : Int} {x4 : Int} {σ : ZSto} (hn : 73 ≤ n) (hc0 : zIsB o0)
    (h : (4 ≤ x4 → ZkV X M_X0_gather d n [.ref (zB X + o0), iV x1, iV (shlI 1 x2)] σ (fun σ5 => ZkI X M_X0_liberties d n [.ref (zB X + o0)] σ5 (fun v9 σ10 => (v9 ≤ 0 → P 0 σ10) ∧ (¬ (v9 ≤ 0) → P 1 σ10)))) ∧ (¬ (4 ≤ x4) → ZkI X M_X0_neighbour d n [.ref (zB X + o0), iV x1, iV x4] σ (fun v19 σ20 => ZkI X M_X0_contentOf d n [.ref (zB X + o0), iV v19] σ20 (fun v24 σ25 => (¬ v24 = x3 → R32 (x4 + 1) ∧ L_X0_put_35 X d n (zpZ P) o0 x1 x2 x3 (x4 + 1) σ25) ∧ (v24 = x3 → ZkV X M_X0_gather d n [.ref (zB X + o0), iV v19, iV (shlI 1 x3)] σ25 (fun σ36 => ZkV X M_X0_takeIfStifled d n [.ref (zB X + o0)] σ36 (fun σ41 => R32 (x4 + 1) ∧ L_X0_put_35 X d n (zpZ P) o0 x1 x2 x3 (x4 + 1) σ41))))))) :
    L_X0_put_35 X d n (zpZ P) o0 x1 x2 x3 x4 σ := by
  intro hx1 hx2 hx3 hx4 k0
  unfold Zn
  refine r_iload dX0_put_35 rfl ?_
  refine r_iconst dX0_put_37 ?_
  refine r_icmp_ge (t := 79) dX0_put_38 rfl hx4 (r32c rfl) (fun c1 => ?_) (fun c2 => ?_)
  · have h3 := h.1 c1
    refine r_aload_n dX0_put_79 rfl ?_
    refine r_iload_n dX0_put_80 rfl ?_
    refine r_iconst dX0_put_81 ?_
    refine r_iload_n dX0_put_82 rfl ?_
    refine r_ishl dX0_put_83 ?_
    refine n_callV (N := M_X0_gather) (As := [iV x1, iV (shlI 1 x2)]) (st := []) dX0_put_84 mk_X0_gather km_RX0_93 kd_X0_gather rfl (zB_lt hc0 hn) (zB_s hc0) (q := (RX0, TX0, 13)) rfl rfl (zFits_rm d n n n (Nat.le_refl n)) (Nat.le_of_ble_eq_true rfl) rfl k0 h3 ?_
    rintro _ σ5 k6 ⟨rfl, h8⟩
    change Zm _ _ _ _ _ _ 87 _ [] _
    refine r_aload_n dX0_put_87 rfl ?_
    refine n_callV (N := M_X0_liberties) (As := []) (st := []) dX0_put_88 mk_X0_liberties km_RX0_111 kd_X0_liberties rfl (zB_lt hc0 hn) (zB_s hc0) (q := (RX0, TX0, 13)) rfl rfl (zFits_rm d n n n (Nat.le_refl n)) (Nat.le_of_ble_eq_true rfl) rfl k6 h8 ?_
    rintro _ σ10 k11 ⟨v9, rfl, h12, h13⟩
    change Zm _ _ _ _ _ _ 91 _ [iV v9] _
    refine r_if_le (t := 98) dX0_put_91 rfl h12  (fun c14 => ?_) (fun c15 => ?_)
    · have h16 := h13.1 c14
      refine r_iconst dX0_put_98 ?_
      exact r_zreturn dX0_put_99 rfl (Or.inl rfl) ⟨k11, _, rfl, (Or.inl rfl), h16⟩
    · have h17 := h13.2 c15
      refine r_iconst dX0_put_94 ?_
      refine r_goto (t := 99) dX0_put_95 rfl ?_
      exact r_zreturn dX0_put_99 rfl (Or.inr rfl) ⟨k11, _, rfl, (Or.inr rfl), h17⟩
  · have h18 := h.2 c2
    refine r_aload_n dX0_put_41 rfl ?_
    refine r_iload_n dX0_put_42 rfl ?_
    refine r_iload dX0_put_43 rfl ?_
    refine n_callV (N := M_X0_neighbour) (As := [iV x1, iV x4]) (st := []) dX0_put_45 mk_X0_neighbour km_RX0_105 kd_X0_neighbour rfl (zB_lt hc0 hn) (zB_s hc0) (q := (RX0, TX0, 13)) rfl rfl (zFits_rm d n n n (Nat.le_refl n)) (Nat.le_of_ble_eq_true rfl) rfl k0 h18 ?_
    rintro _ σ20 k21 ⟨v19, rfl, h22, h23⟩
    change Zm _ _ _ _ _ _ 48 _ [iV v19] _
    refine r_istore dX0_put_48 rfl rfl ?_
    refine r_aload_n dX0_put_50 rfl ?_
    refine r_iload dX0_put_51 rfl ?_
    refine n_callV (N := M_X0_contentOf) (As := [iV v19]) (st := []) dX0_put_53 mk_X0_contentOf km_RX0_86 kd_X0_contentOf rfl (zB_lt hc0 hn) (zB_s hc0) (q := (RX0, TX0, 13)) rfl rfl (zFits_rm d n n n (Nat.le_refl n)) (Nat.le_of_ble_eq_true rfl) rfl k21 h23 ?_
    rintro _ σ25 k26 ⟨v24, rfl, h27, h28⟩
    change Zm _ _ _ _ _ _ 56 _ [iV v24] _
    refine r_iload_n dX0_put_56 rfl ?_
    refine r_icmp_ne (t := 73) dX0_put_57 rfl h27 hx3 (fun c29 => ?_) (fun c30 => ?_)
    · have h31 := h28.1 c29
      refine r_iinc dX0_put_73 rfl rfl rfl ?_
      refine r_goto (t := 35) dX0_put_76 rfl ?_
      obtain ⟨h32, h33⟩ := h31
      exact r_mask [true, true, true, true, true, false] rfl (h33 hx1 hx2 hx3 h32 k26)
    · have h34 := h28.2 c30
      refine r_aload_n dX0_put_60 rfl ?_
      refine r_iload dX0_put_61 rfl ?_
      refine r_iconst dX0_put_63 ?_
      refine r_iload_n dX0_put_64 rfl ?_
      refine r_ishl dX0_put_65 ?_
      refine n_callV (N := M_X0_gather) (As := [iV v19, iV (shlI 1 x3)]) (st := []) dX0_put_66 mk_X0_gather km_RX0_93 kd_X0_gather rfl (zB_lt hc0 hn) (zB_s hc0) (q := (RX0, TX0, 13)) rfl rfl (zFits_rm d n n n (Nat.le_refl n)) (Nat.le_of_ble_eq_true rfl) rfl k26 h34 ?_
      rintro _ σ36 k37 ⟨rfl, h39⟩
      change Zm _ _ _ _ _ _ 69 _ [] _
      refine r_aload_n dX0_put_69 rfl ?_
      refine n_callV (N := M_X0_takeIfStifled) (As := []) (st := []) dX0_put_70 mk_X0_takeIfStifled km_RX0_108 kd_X0_takeIfStifled rfl (zB_lt hc0 hn) (zB_s hc0) (q := (RX0, TX0, 13)) rfl rfl (zFits_rm d n n n (Nat.le_refl n)) (Nat.le_of_ble_eq_true rfl) rfl k37 h39 ?_
      rintro _ σ41 k42 ⟨rfl, h44⟩
      change Zm _ _ _ _ _ _ 73 _ [] _
      refine r_iinc dX0_put_73 rfl rfl rfl ?_
      refine r_goto (t := 35) dX0_put_76 rfl ?_
      obtain ⟨h45, h46⟩ := h44
      exact r_mask [true, true, true, true, true, false] rfl (h46 hx1 hx2 hx3 h45 k42)
/-! StoneRoom$Board.takeIfStifled -/
theorem dX0_takeIfStifled_0 : decode M_X0_takeIfStifled.2.1 0 = .ok (.aload_n 0, 1) := by decide +kernel
theorem dX0_takeIfStifled_1 : decode M_X0_takeIfStifled.2.1 1 = .ok (.getfield 28, 3) := by decide +kernel
theorem dX0_takeIfStifled_4 : decode M_X0_takeIfStifled.2.1 4 = .ok (.iconst 0, 1) := by decide +kernel
theorem dX0_takeIfStifled_5 : decode M_X0_takeIfStifled.2.1 5 = .ok (.iaload, 1) := by decide +kernel
theorem dX0_takeIfStifled_6 : decode M_X0_takeIfStifled.2.1 6 = .ok (.ifCond .le 4, 3) := by decide +kernel
theorem dX0_takeIfStifled_9 : decode M_X0_takeIfStifled.2.1 9 = .ok (.return_, 1) := by decide +kernel
theorem dX0_takeIfStifled_10 : decode M_X0_takeIfStifled.2.1 10 = .ok (.iconst 0, 1) := by decide +kernel
theorem dX0_takeIfStifled_11 : decode M_X0_takeIfStifled.2.1 11 = .ok (.istore_n 1, 1) := by decide +kernel
theorem dX0_takeIfStifled_12 : decode M_X0_takeIfStifled.2.1 12 = .ok (.iload_n 1, 1) := by decide +kernel
theorem dX0_takeIfStifled_13 : decode M_X0_takeIfStifled.2.1 13 = .ok (.aload_n 0, 1) := by decide +kernel
theorem dX0_takeIfStifled_14 : decode M_X0_takeIfStifled.2.1 14 = .ok (.getfield 42, 3) := by decide +kernel
theorem dX0_takeIfStifled_17 : decode M_X0_takeIfStifled.2.1 17 = .ok (.if_icmp .ge 27, 3) := by decide +kernel
theorem dX0_takeIfStifled_20 : decode M_X0_takeIfStifled.2.1 20 = .ok (.iload_n 1, 1) := by decide +kernel
theorem dX0_takeIfStifled_21 : decode M_X0_takeIfStifled.2.1 21 = .ok (.bipush 81, 2) := by decide +kernel
theorem dX0_takeIfStifled_23 : decode M_X0_takeIfStifled.2.1 23 = .ok (.if_icmp .ge 21, 3) := by decide +kernel
theorem dX0_takeIfStifled_26 : decode M_X0_takeIfStifled.2.1 26 = .ok (.aload_n 0, 1) := by decide +kernel
theorem dX0_takeIfStifled_27 : decode M_X0_takeIfStifled.2.1 27 = .ok (.getfield 9, 3) := by decide +kernel
theorem dX0_takeIfStifled_30 : decode M_X0_takeIfStifled.2.1 30 = .ok (.aload_n 0, 1) := by decide +kernel
theorem dX0_takeIfStifled_31 : decode M_X0_takeIfStifled.2.1 31 = .ok (.getfield 19, 3) := by decide +kernel
theorem dX0_takeIfStifled_34 : decode M_X0_takeIfStifled.2.1 34 = .ok (.iload_n 1, 1) := by decide +kernel
theorem dX0_takeIfStifled_35 : decode M_X0_takeIfStifled.2.1 35 = .ok (.iaload, 1) := by decide +kernel
theorem dX0_takeIfStifled_36 : decode M_X0_takeIfStifled.2.1 36 = .ok (.iconst 0, 1) := by decide +kernel
theorem dX0_takeIfStifled_37 : decode M_X0_takeIfStifled.2.1 37 = .ok (.bastore, 1) := by decide +kernel
theorem dX0_takeIfStifled_38 : decode M_X0_takeIfStifled.2.1 38 = .ok (.iinc 1 1, 3) := by decide +kernel
theorem dX0_takeIfStifled_41 : decode M_X0_takeIfStifled.2.1 41 = .ok (.goto (-29), 3) := by decide +kernel
theorem dX0_takeIfStifled_44 : decode M_X0_takeIfStifled.2.1 44 = .ok (.aload_n 0, 1) := by decide +kernel
theorem dX0_takeIfStifled_45 : decode M_X0_takeIfStifled.2.1 45 = .ok (.dup, 1) := by decide +kernel
theorem dX0_takeIfStifled_46 : decode M_X0_takeIfStifled.2.1 46 = .ok (.getfield 51, 3) := by decide +kernel
theorem dX0_takeIfStifled_49 : decode M_X0_takeIfStifled.2.1 49 = .ok (.aload_n 0, 1) := by decide +kernel
theorem dX0_takeIfStifled_50 : decode M_X0_takeIfStifled.2.1 50 = .ok (.getfield 42, 3) := by decide +kernel
theorem dX0_takeIfStifled_53 : decode M_X0_takeIfStifled.2.1 53 = .ok (.iadd, 1) := by decide +kernel
theorem dX0_takeIfStifled_54 : decode M_X0_takeIfStifled.2.1 54 = .ok (.putfield 51, 3) := by decide +kernel
theorem dX0_takeIfStifled_57 : decode M_X0_takeIfStifled.2.1 57 = .ok (.return_, 1) := by decide +kernel
def L_X0_takeIfStifled_12 (X : ZX) (d n : Nat) (P : Option Value → ZSto → Prop) (o0 : Nat) (x1 : Int) (σ : ZSto) : Prop := R32 x1 → ZOk n σ → Zn X M_X0_takeIfStifled d n P 12 [some (.ref (zB X + o0)), some (iV x1)] [] σ
theorem w_X0_takeIfStifled {X : ZX} {d n : Nat} {P : ZSto → Prop} {o0 : Nat} {σ : ZSto} (hn : 73 ≤ n) (hc0 : zIsB o0) 
    (h : (gI σ (o0 + 6) 0 ≤ 0 → L_X0_takeIfStifled_12 X d n (zpV P) o0 0 σ) ∧ (¬ (gI σ (o0 + 6) 0 ≤ 0) → P σ)) :
    ZkV X M_X0_takeIfStifled (d + 1) n [.ref (zB X + o0)] σ P := by
  refine zk_of (ls := [some (.ref (zB X + o0)), none]) pl_RX0 (Nat.le_of_ble_eq_true rfl) rfl (fun k0 => ?_)
  unfold Zn
  refine r_aload_n dX0_takeIfStifled_0 rfl ?_
  refine r_getP (a := (o0 + 6)) dX0_takeIfStifled_1 kf_RX0_28 (zB_lt hc0 hn) (zB_s hc0) rfl (k0.1 _ _ _ (zB_lt hc0 hn) (zB_p5 hc0)) ?_
  refine r_iconst dX0_takeIfStifled_4 ?_
  refine r_ialoadE dX0_takeIfStifled_5 (zB_l5 hc0 hn) (zB_s5 hc0) (by decide) (by decide) rfl ?_
  refine r_if_le (t := 10) dX0_takeIfStifled_6 rfl (k0.2.1 _ _)  (fun c1 => ?_) (fun c2 => ?_)
  · have h3 := h.1 c1
    refine r_iconst dX0_takeIfStifled_10 ?_
    refine r_istore_n dX0_takeIfStifled_11 rfl rfl ?_
    exact r_mask [true, true] rfl (h3 (r32c rfl) k0)
  · have h4 := h.2 c2
    exact r_return dX0_takeIfStifled_9 rfl ⟨k0, rfl, h4⟩
theorem b_X0_takeIfStifled_12 {X : ZX} {d n : Nat} {P : ZSto → Prop} {o0 : Nat} {x1 : Int} {σ : ZSto} (hn : 73 ≤ n) (hc0 : zIsB o0)
    (h : (gI σ o0 9 ≤ x1 → R32 ((gI σ o0 12) + (gI σ o0 9)) ∧ P (sI σ o0 12 ((gI σ o0 12) + (gI σ o0 9)))) ∧ (¬ (gI σ o0 9 ≤ x1) → (81 ≤ x1 → R32 ((gI σ o0 12) + (gI σ o0 9)) ∧ P (sI σ o0 12 ((gI σ o0 12) + (gI σ o0 9)))) ∧ (¬ (81 ≤ x1) → (0 ≤ x1 ∧ x1 < 81) ∧ (0 ≤ gI σ (o0 + 3) x1.toNat ∧ gI σ (o0 + 3) x1.toNat < 81) ∧ R32 (x1 + 1) ∧ L_X0_takeIfStifled_12 X d n (zpV P) o0 (x1 + 1) (sI σ (o0 + 1) ((gI σ (o0 + 3) x1.toNat).toNat) 0)))) :
    L_X0_takeIfStifled_12 X d n (zpV P) o0 x1 σ := by
  intro hx1 k0
  unfold Zn
  refine r_iload_n dX0_takeIfStifled_12 rfl ?_
  refine r_aload_n dX0_takeIfStifled_13 rfl ?_
  refine r_getI dX0_takeIfStifled_14 kf_RX0_42 (zB_lt hc0 hn) (zB_s hc0) (Or.inl rfl) rfl ?_
  refine r_icmp_ge (t := 44) dX0_takeIfStifled_17 rfl hx1 (k0.2.1 _ _) (fun c1 => ?_) (fun c2 => ?_)
  · have h3 := h.1 c1
    refine r_aload_n dX0_takeIfStifled_44 rfl ?_
    refine r_dup dX0_takeIfStifled_45 rfl ?_
    refine r_getI dX0_takeIfStifled_46 kf_RX0_51 (zB_lt hc0 hn) (zB_s hc0) (Or.inl rfl) rfl ?_
    refine r_aload_n dX0_takeIfStifled_49 rfl ?_
    refine r_getI dX0_takeIfStifled_50 kf_RX0_42 (zB_lt hc0 hn) (zB_s hc0) (Or.inl rfl) rfl ?_
    refine r_iadd dX0_takeIfStifled_53 ?_
    obtain ⟨h4, h5⟩ := h3
    refine r_putI dX0_takeIfStifled_54 kf_RX0_51 (zB_lt hc0 hn) (zB_s hc0) rfl (Or.inl rfl) ?_
    have k6 := zok_o (i := 12) (x := (gI σ o0 12) + (gI σ o0 9)) k0 (zB_s hc0) h4
    exact r_return dX0_takeIfStifled_57 rfl ⟨k6, rfl, h5⟩
  · have h7 := h.2 c2
    refine r_iload_n dX0_takeIfStifled_20 rfl ?_
    refine r_bipush dX0_takeIfStifled_21 rfl ?_
    refine r_icmp_ge (t := 44) dX0_takeIfStifled_23 rfl hx1 (r32c rfl) (fun c8 => ?_) (fun c9 => ?_)
    · have h10 := h7.1 c8
      refine r_aload_n dX0_takeIfStifled_44 rfl ?_
      refine r_dup dX0_takeIfStifled_45 rfl ?_
      refine r_getI dX0_takeIfStifled_46 kf_RX0_51 (zB_lt hc0 hn) (zB_s hc0) (Or.inl rfl) rfl ?_
      refine r_aload_n dX0_takeIfStifled_49 rfl ?_
      refine r_getI dX0_takeIfStifled_50 kf_RX0_42 (zB_lt hc0 hn) (zB_s hc0) (Or.inl rfl) rfl ?_
      refine r_iadd dX0_takeIfStifled_53 ?_
      obtain ⟨h11, h12⟩ := h10
      refine r_putI dX0_takeIfStifled_54 kf_RX0_51 (zB_lt hc0 hn) (zB_s hc0) rfl (Or.inl rfl) ?_
      have k13 := zok_o (i := 12) (x := (gI σ o0 12) + (gI σ o0 9)) k0 (zB_s hc0) h11
      exact r_return dX0_takeIfStifled_57 rfl ⟨k13, rfl, h12⟩
    · have h14 := h7.2 c9
      refine r_aload_n dX0_takeIfStifled_26 rfl ?_
      refine r_getP (a := (o0 + 1)) dX0_takeIfStifled_27 kf_RX0_9 (zB_lt hc0 hn) (zB_s hc0) rfl (k0.1 _ _ _ (zB_lt hc0 hn) (zB_p0 hc0)) ?_
      refine r_aload_n dX0_takeIfStifled_30 rfl ?_
      refine r_getP (a := (o0 + 3)) dX0_takeIfStifled_31 kf_RX0_19 (zB_lt hc0 hn) (zB_s hc0) rfl (k0.1 _ _ _ (zB_lt hc0 hn) (zB_p2 hc0)) ?_
      refine r_iload_n dX0_takeIfStifled_34 rfl ?_
      obtain ⟨h15, h16⟩ := h14
      refine r_ialoadE dX0_takeIfStifled_35 (zB_l2 hc0 hn) (zB_s2 hc0) h15.1 h15.2 rfl ?_
      refine r_iconst dX0_takeIfStifled_36 ?_
      obtain ⟨h17, h18⟩ := h16
      refine r_bastore dX0_takeIfStifled_37 (zB_l0 hc0 hn) (zB_s0 hc0) h17.1 h17.2 (by decide) (by decide) ?_
      have k19 := zok_b (i := (gI σ (o0 + 3) x1.toNat).toNat) (x := 0) k0 (zB_s0 hc0) (by decide) (by decide)
      refine r_iinc dX0_takeIfStifled_38 rfl rfl rfl ?_
      refine r_goto (t := 12) dX0_takeIfStifled_41 rfl ?_
      obtain ⟨h20, h21⟩ := h18
      exact r_mask [true, true] rfl (h21 h20 k19)
/-! StoneRoom$Board.allBreathe -/
theorem dX0_allBreathe_0 : decode M_X0_allBreathe.2.1 0 = .ok (.aload_n 0, 1) := by decide +kernel
theorem dX0_allBreathe_1 : decode M_X0_allBreathe.2.1 1 = .ok (.getfield 45, 3) := by decide +kernel
theorem dX0_allBreathe_4 : decode M_X0_allBreathe.2.1 4 = .ok (.istore_n 1, 1) := by decide +kernel
theorem dX0_allBreathe_5 : decode M_X0_allBreathe.2.1 5 = .ok (.iconst 0, 1) := by decide +kernel
theorem dX0_allBreathe_6 : decode M_X0_allBreathe.2.1 6 = .ok (.istore_n 2, 1) := by decide +kernel
theorem dX0_allBreathe_7 : decode M_X0_allBreathe.2.1 7 = .ok (.iload_n 2, 1) := by decide +kernel
theorem dX0_allBreathe_8 : decode M_X0_allBreathe.2.1 8 = .ok (.aload_n 0, 1) := by decide +kernel
theorem dX0_allBreathe_9 : decode M_X0_allBreathe.2.1 9 = .ok (.getfield 39, 3) := by decide +kernel
theorem dX0_allBreathe_12 : decode M_X0_allBreathe.2.1 12 = .ok (.if_icmp .ge 41, 3) := by decide +kernel
theorem dX0_allBreathe_15 : decode M_X0_allBreathe.2.1 15 = .ok (.aload_n 0, 1) := by decide +kernel
theorem dX0_allBreathe_16 : decode M_X0_allBreathe.2.1 16 = .ok (.getfield 9, 3) := by decide +kernel
theorem dX0_allBreathe_19 : decode M_X0_allBreathe.2.1 19 = .ok (.iload_n 2, 1) := by decide +kernel
theorem dX0_allBreathe_20 : decode M_X0_allBreathe.2.1 20 = .ok (.baload, 1) := by decide +kernel
theorem dX0_allBreathe_21 : decode M_X0_allBreathe.2.1 21 = .ok (.ifCond .eq 26, 3) := by decide +kernel
theorem dX0_allBreathe_24 : decode M_X0_allBreathe.2.1 24 = .ok (.aload_n 0, 1) := by decide +kernel
theorem dX0_allBreathe_25 : decode M_X0_allBreathe.2.1 25 = .ok (.iload_n 2, 1) := by decide +kernel
theorem dX0_allBreathe_26 : decode M_X0_allBreathe.2.1 26 = .ok (.iload_n 1, 1) := by decide +kernel
theorem dX0_allBreathe_27 : decode M_X0_allBreathe.2.1 27 = .ok (.invokevirtual 115, 3) := by decide +kernel
theorem dX0_allBreathe_30 : decode M_X0_allBreathe.2.1 30 = .ok (.ifCond .ne 17, 3) := by decide +kernel
theorem dX0_allBreathe_33 : decode M_X0_allBreathe.2.1 33 = .ok (.aload_n 0, 1) := by decide +kernel
theorem dX0_allBreathe_34 : decode M_X0_allBreathe.2.1 34 = .ok (.iload_n 2, 1) := by decide +kernel
theorem dX0_allBreathe_35 : decode M_X0_allBreathe.2.1 35 = .ok (.invokevirtual 119, 3) := by decide +kernel
theorem dX0_allBreathe_38 : decode M_X0_allBreathe.2.1 38 = .ok (.aload_n 0, 1) := by decide +kernel
theorem dX0_allBreathe_39 : decode M_X0_allBreathe.2.1 39 = .ok (.invokevirtual 111, 3) := by decide +kernel
theorem dX0_allBreathe_42 : decode M_X0_allBreathe.2.1 42 = .ok (.ifCond .ne 5, 3) := by decide +kernel
theorem dX0_allBreathe_45 : decode M_X0_allBreathe.2.1 45 = .ok (.iconst 0, 1) := by decide +kernel
theorem dX0_allBreathe_46 : decode M_X0_allBreathe.2.1 46 = .ok (.ireturn, 1) := by decide +kernel
theorem dX0_allBreathe_47 : decode M_X0_allBreathe.2.1 47 = .ok (.iinc 2 1, 3) := by decide +kernel
theorem dX0_allBreathe_50 : decode M_X0_allBreathe.2.1 50 = .ok (.goto (-43), 3) := by decide +kernel
theorem dX0_allBreathe_53 : decode M_X0_allBreathe.2.1 53 = .ok (.iconst 1, 1) := by decide +kernel
theorem dX0_allBreathe_54 : decode M_X0_allBreathe.2.1 54 = .ok (.ireturn, 1) := by decide +kernel
def L_X0_allBreathe_7 (X : ZX) (d n : Nat) (P : Option Value → ZSto → Prop) (o0 : Nat) (x1 : Int) (x2 : Int) (σ : ZSto) : Prop := R32 x1 → R32 x2 → ZOk n σ → Zn X M_X0_allBreathe d n P 7 [some (.ref (zB X + o0)), some (iV x1), some (iV x2)] [] σ
theorem w_X0_allBreathe {X : ZX} {d n : Nat} {P : Int → ZSto → Prop} {o0 : Nat} {σ : ZSto} (hn : 73 ≤ n) (hc0 : zIsB o0) 
    (h : (∀ y1 : Int, y1 = gI σ o0 10 → L_X0_allBreathe_7 X d n (zpZ P) o0 y1 0 σ)) :
    ZkZ X M_X0_allBreathe (d + 1) n [.ref (zB X + o0)] σ P := by
  refine zk_of (ls := [some (.ref (zB X + o0)), none, none]) pl_RX0 (Nat.le_of_ble_eq_true rfl) rfl (fun k0 => ?_)
  unfold Zn
  refine r_aload_n dX0_allBreathe_0 rfl ?_
  refine r_getI dX0_allBreathe_1 kf_RX0_45 (zB_lt hc0 hn) (zB_s hc0) (Or.inl rfl) rfl ?_
  refine r_name (fun y1 e2 => ?_)
  have h3 := h y1 e2
  refine r_istore_n dX0_allBreathe_4 rfl rfl ?_
  refine r_iconst dX0_allBreathe_5 ?_
  refine r_istore_n dX0_allBreathe_6 rfl rfl ?_
  exact r_mask [true, true, true] rfl (h3 (by rw [e2]; exact (k0.2.1 _ _)) (r32c rfl) k0)
theorem b_X0_allBreathe_7 {X : ZX} {d n : Nat} {P : Int → ZSto → Prop} {o0 : Nat} {x1 : Int} {x2 : Int} {σ : ZSto} (hn : 73 ≤ n) (hc0 : zIsB o0)
    (h : (gI σ o0 8 ≤ x2 → P 1 σ) ∧ (¬ (gI σ o0 8 ≤ x2) → (0 ≤ x2 ∧ x2 < 81) ∧ (gI σ (o0 + 1) x2.toNat = 0 → R32 (x2 + 1) ∧ L_X0_allBreathe_7 X d n (zpZ P) o0 x1 (x2 + 1) σ) ∧ (¬ (gI σ (o0 + 1) x2.toNat = 0) → ZkZ X M_X0_gatheredSince d n [.ref (zB X + o0), iV x2, iV x1] σ (fun v13 σ14 => (¬ v13 = 0 → R32 (x2 + 1) ∧ L_X0_allBreathe_7 X d n (zpZ P) o0 x1 (x2 + 1) σ14) ∧ (v13 = 0 → ZkV X M_X0_gatherChain d n [.ref (zB X + o0), iV x2] σ14 (fun σ25 => ZkI X M_X0_liberties d n [.ref (zB X + o0)] σ25 (fun v29 σ30 => (¬ v29 = 0 → R32 (x2 + 1) ∧ L_X0_allBreathe_7 X d n (zpZ P) o0 x1 (x2 + 1) σ30) ∧ (v29 = 0 → P 0 σ30)))))))) :
    L_X0_allBreathe_7 X d n (zpZ P) o0 x1 x2 σ := by
  intro hx1 hx2 k0
  unfold Zn
  refine r_iload_n dX0_allBreathe_7 rfl ?_
  refine r_aload_n dX0_allBreathe_8 rfl ?_
  refine r_getI dX0_allBreathe_9 kf_RX0_39 (zB_lt hc0 hn) (zB_s hc0) (Or.inl rfl) rfl ?_
  refine r_icmp_ge (t := 53) dX0_allBreathe_12 rfl hx2 (k0.2.1 _ _) (fun c1 => ?_) (fun c2 => ?_)
  · have h3 := h.1 c1
    refine r_iconst dX0_allBreathe_53 ?_
    exact r_zreturn dX0_allBreathe_54 rfl (Or.inr rfl) ⟨k0, _, rfl, (Or.inr rfl), h3⟩
  · have h4 := h.2 c2
    refine r_aload_n dX0_allBreathe_15 rfl ?_
    refine r_getP (a := (o0 + 1)) dX0_allBreathe_16 kf_RX0_9 (zB_lt hc0 hn) (zB_s hc0) rfl (k0.1 _ _ _ (zB_lt hc0 hn) (zB_p0 hc0)) ?_
    refine r_iload_n dX0_allBreathe_19 rfl ?_
    obtain ⟨h5, h6⟩ := h4
    refine r_baloadE dX0_allBreathe_20 (zB_l0 hc0 hn) (zB_s0 hc0) h5.1 h5.2 rfl ?_
    refine r_if_eq (t := 47) dX0_allBreathe_21 rfl (k0.2.1 _ _)  (fun c7 => ?_) (fun c8 => ?_)
    · have h9 := h6.1 c7
      refine r_iinc dX0_allBreathe_47 rfl rfl rfl ?_
      refine r_goto (t := 7) dX0_allBreathe_50 rfl ?_
      obtain ⟨h10, h11⟩ := h9
      exact r_mask [true, true, true] rfl (h11 hx1 h10 k0)
    · have h12 := h6.2 c8
      refine r_aload_n dX0_allBreathe_24 rfl ?_
      refine r_iload_n dX0_allBreathe_25 rfl ?_
      refine r_iload_n dX0_allBreathe_26 rfl ?_
      refine n_callV (N := M_X0_gatheredSince) (As := [iV x2, iV x1]) (st := []) dX0_allBreathe_27 mk_X0_gatheredSince km_RX0_115 kd_X0_gatheredSince rfl (zB_lt hc0 hn) (zB_s hc0) (q := (RX0, TX0, 13)) rfl rfl (zFits_rm d n n n (Nat.le_refl n)) (Nat.le_of_ble_eq_true rfl) rfl k0 h12 ?_
      rintro _ σ14 k15 ⟨v13, rfl, h16, h17⟩
      change Zm _ _ _ _ _ _ 30 _ [iV v13] _
      refine r_if_ne (t := 47) dX0_allBreathe_30 rfl (r32_z h16)  (fun c18 => ?_) (fun c19 => ?_)
      · have h20 := h17.1 c18
        refine r_iinc dX0_allBreathe_47 rfl rfl rfl ?_
        refine r_goto (t := 7) dX0_allBreathe_50 rfl ?_
        obtain ⟨h21, h22⟩ := h20
        exact r_mask [true, true, true] rfl (h22 hx1 h21 k15)
      · have h23 := h17.2 c19
        refine r_aload_n dX0_allBreathe_33 rfl ?_
        refine r_iload_n dX0_allBreathe_34 rfl ?_
        refine n_callV (N := M_X0_gatherChain) (As := [iV x2]) (st := []) dX0_allBreathe_35 mk_X0_gatherChain km_RX0_119 kd_X0_gatherChain rfl (zB_lt hc0 hn) (zB_s hc0) (q := (RX0, TX0, 13)) rfl rfl (zFits_rm d n n n (Nat.le_refl n)) (Nat.le_of_ble_eq_true rfl) rfl k15 h23 ?_
        rintro _ σ25 k26 ⟨rfl, h28⟩
        change Zm _ _ _ _ _ _ 38 _ [] _
        refine r_aload_n dX0_allBreathe_38 rfl ?_
        refine n_callV (N := M_X0_liberties) (As := []) (st := []) dX0_allBreathe_39 mk_X0_liberties km_RX0_111 kd_X0_liberties rfl (zB_lt hc0 hn) (zB_s hc0) (q := (RX0, TX0, 13)) rfl rfl (zFits_rm d n n n (Nat.le_refl n)) (Nat.le_of_ble_eq_true rfl) rfl k26 h28 ?_
        rintro _ σ30 k31 ⟨v29, rfl, h32, h33⟩
        change Zm _ _ _ _ _ _ 42 _ [iV v29] _
        refine r_if_ne (t := 47) dX0_allBreathe_42 rfl h32  (fun c34 => ?_) (fun c35 => ?_)
        · have h36 := h33.1 c34
          refine r_iinc dX0_allBreathe_47 rfl rfl rfl ?_
          refine r_goto (t := 7) dX0_allBreathe_50 rfl ?_
          obtain ⟨h37, h38⟩ := h36
          exact r_mask [true, true, true] rfl (h38 hx1 h37 k31)
        · have h39 := h33.2 c35
          refine r_iconst dX0_allBreathe_45 ?_
          exact r_zreturn dX0_allBreathe_46 rfl (Or.inl rfl) ⟨k31, _, rfl, (Or.inl rfl), h39⟩
/-! StoneRoom$Board.countChains -/
theorem dX0_countChains_0 : decode M_X0_countChains.2.1 0 = .ok (.aload_n 0, 1) := by decide +kernel
theorem dX0_countChains_1 : decode M_X0_countChains.2.1 1 = .ok (.getfield 45, 3) := by decide +kernel
theorem dX0_countChains_4 : decode M_X0_countChains.2.1 4 = .ok (.istore_n 1, 1) := by decide +kernel
theorem dX0_countChains_5 : decode M_X0_countChains.2.1 5 = .ok (.iconst 0, 1) := by decide +kernel
theorem dX0_countChains_6 : decode M_X0_countChains.2.1 6 = .ok (.istore_n 2, 1) := by decide +kernel
theorem dX0_countChains_7 : decode M_X0_countChains.2.1 7 = .ok (.iconst 0, 1) := by decide +kernel
theorem dX0_countChains_8 : decode M_X0_countChains.2.1 8 = .ok (.istore_n 3, 1) := by decide +kernel
theorem dX0_countChains_9 : decode M_X0_countChains.2.1 9 = .ok (.iload_n 3, 1) := by decide +kernel
theorem dX0_countChains_10 : decode M_X0_countChains.2.1 10 = .ok (.aload_n 0, 1) := by decide +kernel
theorem dX0_countChains_11 : decode M_X0_countChains.2.1 11 = .ok (.getfield 39, 3) := by decide +kernel
theorem dX0_countChains_14 : decode M_X0_countChains.2.1 14 = .ok (.if_icmp .ge 35, 3) := by decide +kernel
theorem dX0_countChains_17 : decode M_X0_countChains.2.1 17 = .ok (.aload_n 0, 1) := by decide +kernel
theorem dX0_countChains_18 : decode M_X0_countChains.2.1 18 = .ok (.getfield 9, 3) := by decide +kernel
theorem dX0_countChains_21 : decode M_X0_countChains.2.1 21 = .ok (.iload_n 3, 1) := by decide +kernel
theorem dX0_countChains_22 : decode M_X0_countChains.2.1 22 = .ok (.baload, 1) := by decide +kernel
theorem dX0_countChains_23 : decode M_X0_countChains.2.1 23 = .ok (.ifCond .eq 20, 3) := by decide +kernel
theorem dX0_countChains_26 : decode M_X0_countChains.2.1 26 = .ok (.aload_n 0, 1) := by decide +kernel
theorem dX0_countChains_27 : decode M_X0_countChains.2.1 27 = .ok (.iload_n 3, 1) := by decide +kernel
theorem dX0_countChains_28 : decode M_X0_countChains.2.1 28 = .ok (.iload_n 1, 1) := by decide +kernel
theorem dX0_countChains_29 : decode M_X0_countChains.2.1 29 = .ok (.invokevirtual 115, 3) := by decide +kernel
theorem dX0_countChains_32 : decode M_X0_countChains.2.1 32 = .ok (.ifCond .ne 11, 3) := by decide +kernel
theorem dX0_countChains_35 : decode M_X0_countChains.2.1 35 = .ok (.aload_n 0, 1) := by decide +kernel
theorem dX0_countChains_36 : decode M_X0_countChains.2.1 36 = .ok (.iload_n 3, 1) := by decide +kernel
theorem dX0_countChains_37 : decode M_X0_countChains.2.1 37 = .ok (.invokevirtual 119, 3) := by decide +kernel
theorem dX0_countChains_40 : decode M_X0_countChains.2.1 40 = .ok (.iinc 2 1, 3) := by decide +kernel
theorem dX0_countChains_43 : decode M_X0_countChains.2.1 43 = .ok (.iinc 3 1, 3) := by decide +kernel
theorem dX0_countChains_46 : decode M_X0_countChains.2.1 46 = .ok (.goto (-37), 3) := by decide +kernel
theorem dX0_countChains_49 : decode M_X0_countChains.2.1 49 = .ok (.iload_n 2, 1) := by decide +kernel
theorem dX0_countChains_50 : decode M_X0_countChains.2.1 50 = .ok (.ireturn, 1) := by decide +kernel
def L_X0_countChains_9 (X : ZX) (d n : Nat) (P : Option Value → ZSto → Prop) (o0 : Nat) (x1 : Int) (x2 : Int) (x3 : Int) (σ : ZSto) : Prop := R32 x1 → R32 x2 → R32 x3 → ZOk n σ → Zn X M_X0_countChains d n P 9 [some (.ref (zB X + o0)), some (iV x1), some (iV x2), some (iV x3)] [] σ
theorem w_X0_countChains {X : ZX} {d n : Nat} {P : Int → ZSto → Prop} {o0 : Nat} {σ : ZSto} (hn : 73 ≤ n) (hc0 : zIsB o0) 
    (h : (∀ y1 : Int, y1 = gI σ o0 10 → L_X0_countChains_9 X d n (zpI P) o0 y1 0 0 σ)) :
    ZkI X M_X0_countChains (d + 1) n [.ref (zB X + o0)] σ P := by
  refine zk_of (ls := [some (.ref (zB X + o0)), none, none, none]) pl_RX0 (Nat.le_of_ble_eq_true rfl) rfl (fun k0 => ?_)
  unfold Zn
  refine r_aload_n dX0_countChains_0 rfl ?_
  refine r_getI dX0_countChains_1 kf_RX0_45 (zB_lt hc0 hn) (zB_s hc0) (Or.inl rfl) rfl ?_
  refine r_name (fun y1 e2 => ?_)
  have h3 := h y1 e2
  refine r_istore_n dX0_countChains_4 rfl rfl ?_
  refine r_iconst dX0_countChains_5 ?_
  refine r_istore_n dX0_countChains_6 rfl rfl ?_
  refine r_iconst dX0_countChains_7 ?_
  refine r_istore_n dX0_countChains_8 rfl rfl ?_
  exact r_mask [true, true, true, true] rfl (h3 (by rw [e2]; exact (k0.2.1 _ _)) (r32c rfl) (r32c rfl) k0)
theorem b_X0_countChains_9 {X : ZX} {d n : Nat} {P : Int → ZSto → Prop} {o0 : Nat} {x1 : Int} {x2 : Int} {x3 : Int} {σ : ZSto} (hn : 73 ≤ n) (hc0 : zIsB o0)
    (h : (gI σ o0 8 ≤ x3 → P x2 σ) ∧ (¬ (gI σ o0 8 ≤ x3) → (0 ≤ x3 ∧ x3 < 81) ∧ (gI σ (o0 + 1) x3.toNat = 0 → R32 (x3 + 1) ∧ L_X0_countChains_9 X d n (zpI P) o0 x1 x2 (x3 + 1) σ) ∧ (¬ (gI σ (o0 + 1) x3.toNat = 0) → ZkZ X M_X0_gatheredSince d n [.ref (zB X + o0), iV x3, iV x1] σ (fun v13 σ14 => (¬ v13 = 0 → R32 (x3 + 1) ∧ L_X0_countChains_9 X d n (zpI P) o0 x1 x2 (x3 + 1) σ14) ∧ (v13 = 0 → ZkV X M_X0_gatherChain d n [.ref (zB X + o0), iV x3] σ14 (fun σ25 => R32 (x2 + 1) ∧ R32 (x3 + 1) ∧ L_X0_countChains_9 X d n (zpI P) o0 x1 (x2 + 1) (x3 + 1) σ25)))))) :
    L_X0_countChains_9 X d n (zpI P) o0 x1 x2 x3 σ := by
  intro hx1 hx2 hx3 k0
  unfold Zn
  refine r_iload_n dX0_countChains_9 rfl ?_
  refine r_aload_n dX0_countChains_10 rfl ?_
  refine r_getI dX0_countChains_11 kf_RX0_39 (zB_lt hc0 hn) (zB_s hc0) (Or.inl rfl) rfl ?_
  refine r_icmp_ge (t := 49) dX0_countChains_14 rfl hx3 (k0.2.1 _ _) (fun c1 => ?_) (fun c2 => ?_)
  · have h3 := h.1 c1
    refine r_iload_n dX0_countChains_49 rfl ?_
    exact r_ireturn dX0_countChains_50 rfl ⟨k0, _, rfl, hx2, h3⟩
  · have h4 := h.2 c2
    refine r_aload_n dX0_countChains_17 rfl ?_
    refine r_getP (a := (o0 + 1)) dX0_countChains_18 kf_RX0_9 (zB_lt hc0 hn) (zB_s hc0) rfl (k0.1 _ _ _ (zB_lt hc0 hn) (zB_p0 hc0)) ?_
    refine r_iload_n dX0_countChains_21 rfl ?_
    obtain ⟨h5, h6⟩ := h4
    refine r_baloadE dX0_countChains_22 (zB_l0 hc0 hn) (zB_s0 hc0) h5.1 h5.2 rfl ?_
    refine r_if_eq (t := 43) dX0_countChains_23 rfl (k0.2.1 _ _)  (fun c7 => ?_) (fun c8 => ?_)
    · have h9 := h6.1 c7
      refine r_iinc dX0_countChains_43 rfl rfl rfl ?_
      refine r_goto (t := 9) dX0_countChains_46 rfl ?_
      obtain ⟨h10, h11⟩ := h9
      exact r_mask [true, true, true, true] rfl (h11 hx1 hx2 h10 k0)
    · have h12 := h6.2 c8
      refine r_aload_n dX0_countChains_26 rfl ?_
      refine r_iload_n dX0_countChains_27 rfl ?_
      refine r_iload_n dX0_countChains_28 rfl ?_
      refine n_callV (N := M_X0_gatheredSince) (As := [iV x3, iV x1]) (st := []) dX0_countChains_29 mk_X0_gatheredSince km_RX0_115 kd_X0_gatheredSince rfl (zB_lt hc0 hn) (zB_s hc0) (q := (RX0, TX0, 13)) rfl rfl (zFits_rm d n n n (Nat.le_refl n)) (Nat.le_of_ble_eq_true rfl) rfl k0 h12 ?_
      rintro _ σ14 k15 ⟨v13, rfl, h16, h17⟩
      change Zm _ _ _ _ _ _ 32 _ [iV v13] _
      refine r_if_ne (t := 43) dX0_countChains_32 rfl (r32_z h16)  (fun c18 => ?_) (fun c19 => ?_)
      · have h20 := h17.1 c18
        refine r_iinc dX0_countChains_43 rfl rfl rfl ?_
        refine r_goto (t := 9) dX0_countChains_46 rfl ?_
        obtain ⟨h21, h22⟩ := h20
        exact r_mask [true, true, true, true] rfl (h22 hx1 hx2 h21 k15)
      · have h23 := h17.2 c19
        refine r_aload_n dX0_countChains_35 rfl ?_
        refine r_iload_n dX0_countChains_36 rfl ?_
        refine n_callV (N := M_X0_gatherChain) (As := [iV x3]) (st := []) dX0_countChains_37 mk_X0_gatherChain km_RX0_119 kd_X0_gatherChain rfl (zB_lt hc0 hn) (zB_s hc0) (q := (RX0, TX0, 13)) rfl rfl (zFits_rm d n n n (Nat.le_refl n)) (Nat.le_of_ble_eq_true rfl) rfl k15 h23 ?_
        rintro _ σ25 k26 ⟨rfl, h28⟩
        change Zm _ _ _ _ _ _ 40 _ [] _
        refine r_iinc dX0_countChains_40 rfl rfl rfl ?_
        refine r_iinc dX0_countChains_43 rfl rfl rfl ?_
        refine r_goto (t := 9) dX0_countChains_46 rfl ?_
        obtain ⟨h29, h30⟩ := h28
        obtain ⟨h31, h32⟩ := h30
        exact r_mask [true, true, true, true] rfl (h32 hx1 h29 h31 k26)
/-! StoneRoom$Board.countOf -/
theorem dX0_countOf_0 : decode M_X0_countOf.2.1 0 = .ok (.iconst 0, 1) := by decide +kernel
theorem dX0_countOf_1 : decode M_X0_countOf.2.1 1 = .ok (.istore_n 2, 1) := by decide +kernel
theorem dX0_countOf_2 : decode M_X0_countOf.2.1 2 = .ok (.iconst 0, 1) := by decide +kernel
theorem dX0_countOf_3 : decode M_X0_countOf.2.1 3 = .ok (.istore_n 3, 1) := by decide +kernel
theorem dX0_countOf_4 : decode M_X0_countOf.2.1 4 = .ok (.iload_n 3, 1) := by decide +kernel
theorem dX0_countOf_5 : decode M_X0_countOf.2.1 5 = .ok (.aload_n 0, 1) := by decide +kernel
theorem dX0_countOf_6 : decode M_X0_countOf.2.1 6 = .ok (.getfield 39, 3) := by decide +kernel
theorem dX0_countOf_9 : decode M_X0_countOf.2.1 9 = .ok (.if_icmp .ge 22, 3) := by decide +kernel
theorem dX0_countOf_12 : decode M_X0_countOf.2.1 12 = .ok (.aload_n 0, 1) := by decide +kernel
theorem dX0_countOf_13 : decode M_X0_countOf.2.1 13 = .ok (.getfield 9, 3) := by decide +kernel
theorem dX0_countOf_16 : decode M_X0_countOf.2.1 16 = .ok (.iload_n 3, 1) := by decide +kernel
theorem dX0_countOf_17 : decode M_X0_countOf.2.1 17 = .ok (.baload, 1) := by decide +kernel
theorem dX0_countOf_18 : decode M_X0_countOf.2.1 18 = .ok (.iload_n 1, 1) := by decide +kernel
theorem dX0_countOf_19 : decode M_X0_countOf.2.1 19 = .ok (.if_icmp .ne 6, 3) := by decide +kernel
theorem dX0_countOf_22 : decode M_X0_countOf.2.1 22 = .ok (.iinc 2 1, 3) := by decide +kernel
theorem dX0_countOf_25 : decode M_X0_countOf.2.1 25 = .ok (.iinc 3 1, 3) := by decide +kernel
theorem dX0_countOf_28 : decode M_X0_countOf.2.1 28 = .ok (.goto (-24), 3) := by decide +kernel
theorem dX0_countOf_31 : decode M_X0_countOf.2.1 31 = .ok (.iload_n 2, 1) := by decide +kernel
theorem dX0_countOf_32 : decode M_X0_countOf.2.1 32 = .ok (.ireturn, 1) := by decide +kernel
def L_X0_countOf_4 (X : ZX) (d n : Nat) (P : Option Value → ZSto → Prop) (o0 : Nat) (x1 : Int) (x2 : Int) (x3 : Int) (σ : ZSto) : Prop := R32 x1 → R32 x2 → R32 x3 → ZOk n σ → Zn X M_X0_countOf d n P 4 [some (.ref (zB X + o0)), some (iV x1), some (iV x2), some (iV x3)] [] σ
theorem w_X0_countOf {X : ZX} {d n : Nat} {P : Int → ZSto → Prop} {o0 : Nat} {x1 : Int} {σ : ZSto} (hn : 73 ≤ n) (hc0 : zIsB o0) (hx1 : R32 x1)
    (h : L_X0_countOf_4 X d n (zpI P) o0 x1 0 0 σ) :
    ZkI X M_X0_countOf (d + 1) n [.ref (zB X + o0), iV x1] σ P := by
  refine zk_of (ls := [some (.ref (zB X + o0)), some (iV x1), none, none]) pl_RX0 (Nat.le_of_ble_eq_true rfl) rfl (fun k0 => ?_)
  unfold Zn
  refine r_iconst dX0_countOf_0 ?_
  refine r_istore_n dX0_countOf_1 rfl rfl ?_
  refine r_iconst dX0_countOf_2 ?_
  refine r_istore_n dX0_countOf_3 rfl rfl ?_
  exact r_mask [true, true, true, true] rfl (h hx1 (r32c rfl) (r32c rfl) k0)
theorem b_X0_countOf_4 {X : ZX} {d n : Nat} {P : Int → ZSto → Prop} {o0 : Nat} {x1 : Int} {x2 : Int} {x3 : Int} {σ : ZSto} (hn : 73 ≤ n) (hc0 : zIsB o0)
    (h : (gI σ o0 8 ≤ x3 → P x2 σ) ∧ (¬ (gI σ o0 8 ≤ x3) → (0 ≤ x3 ∧ x3 < 81) ∧ (¬ gI σ (o0 + 1) x3.toNat = x1 → R32 (x3 + 1) ∧ L_X0_countOf_4 X d n (zpI P) o0 x1 x2 (x3 + 1) σ) ∧ (gI σ (o0 + 1) x3.toNat = x1 → R32 (x2 + 1) ∧ R32 (x3 + 1) ∧ L_X0_countOf_4 X d n (zpI P) o0 x1 (x2 + 1) (x3 + 1) σ))) :
    L_X0_countOf_4 X d n (zpI P) o0 x1 x2 x3 σ := by
  intro hx1 hx2 hx3 k0
  unfold Zn
  refine r_iload_n dX0_countOf_4 rfl ?_
  refine r_aload_n dX0_countOf_5 rfl ?_
  refine r_getI dX0_countOf_6 kf_RX0_39 (zB_lt hc0 hn) (zB_s hc0) (Or.inl rfl) rfl ?_
  refine r_icmp_ge (t := 31) dX0_countOf_9 rfl hx3 (k0.2.1 _ _) (fun c1 => ?_) (fun c2 => ?_)
  · have h3 := h.1 c1
    refine r_iload_n dX0_countOf_31 rfl ?_
    exact r_ireturn dX0_countOf_32 rfl ⟨k0, _, rfl, hx2, h3⟩
  · have h4 := h.2 c2
    refine r_aload_n dX0_countOf_12 rfl ?_
    refine r_getP (a := (o0 + 1)) dX0_countOf_13 kf_RX0_9 (zB_lt hc0 hn) (zB_s hc0) rfl (k0.1 _ _ _ (zB_lt hc0 hn) (zB_p0 hc0)) ?_
    refine r_iload_n dX0_countOf_16 rfl ?_
    obtain ⟨h5, h6⟩ := h4
    refine r_baloadE dX0_countOf_17 (zB_l0 hc0 hn) (zB_s0 hc0) h5.1 h5.2 rfl ?_
    refine r_iload_n dX0_countOf_18 rfl ?_
    refine r_icmp_ne (t := 25) dX0_countOf_19 rfl (k0.2.1 _ _) hx1 (fun c7 => ?_) (fun c8 => ?_)
    · have h9 := h6.1 c7
      refine r_iinc dX0_countOf_25 rfl rfl rfl ?_
      refine r_goto (t := 4) dX0_countOf_28 rfl ?_
      obtain ⟨h10, h11⟩ := h9
      exact r_mask [true, true, true, true] rfl (h11 hx1 hx2 h10 k0)
    · have h12 := h6.2 c8
      refine r_iinc dX0_countOf_22 rfl rfl rfl ?_
      refine r_iinc dX0_countOf_25 rfl rfl rfl ?_
      refine r_goto (t := 4) dX0_countOf_28 rfl ?_
      obtain ⟨h13, h14⟩ := h12
      obtain ⟨h15, h16⟩ := h14
      exact r_mask [true, true, true, true] rfl (h16 hx1 h13 h15 k0)
