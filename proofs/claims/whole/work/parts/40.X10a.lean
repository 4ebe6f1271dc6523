/-! StoneRoomModel.empties -/
theorem dX10_empties_0 : decode M_X10_empties.2.1 0 = .ok (.aload_n 0, 1) := by decide +kernel
theorem dX10_empties_1 : decode M_X10_empties.2.1 1 = .ok (.getfield 33, 3) := by decide +kernel
theorem dX10_empties_4 : decode M_X10_empties.2.1 4 = .ok (.iload_n 1, 1) := by decide +kernel
theorem dX10_empties_5 : decode M_X10_empties.2.1 5 = .ok (.iconst 0, 1) := by decide +kernel
theorem dX10_empties_6 : decode M_X10_empties.2.1 6 = .ok (.iastore, 1) := by decide +kernel
theorem dX10_empties_7 : decode M_X10_empties.2.1 7 = .ok (.aload_n 0, 1) := by decide +kernel
theorem dX10_empties_8 : decode M_X10_empties.2.1 8 = .ok (.getfield 36, 3) := by decide +kernel
theorem dX10_empties_11 : decode M_X10_empties.2.1 11 = .ok (.iload_n 1, 1) := by decide +kernel
theorem dX10_empties_12 : decode M_X10_empties.2.1 12 = .ok (.iload_n 2, 1) := by decide +kernel
theorem dX10_empties_13 : decode M_X10_empties.2.1 13 = .ok (.iastore, 1) := by decide +kernel
theorem dX10_empties_14 : decode M_X10_empties.2.1 14 = .ok (.aload_n 0, 1) := by decide +kernel
theorem dX10_empties_15 : decode M_X10_empties.2.1 15 = .ok (.getfield 39, 3) := by decide +kernel
theorem dX10_empties_18 : decode M_X10_empties.2.1 18 = .ok (.iload_n 1, 1) := by decide +kernel
theorem dX10_empties_19 : decode M_X10_empties.2.1 19 = .ok (.iload_n 3, 1) := by decide +kernel
theorem dX10_empties_20 : decode M_X10_empties.2.1 20 = .ok (.iastore, 1) := by decide +kernel
theorem dX10_empties_21 : decode M_X10_empties.2.1 21 = .ok (.return_, 1) := by decide +kernel
theorem w_X10_empties {X : ZX} {d n : Nat} {P : ZSto → Prop} {x1 : Int} {x2 : Int} {x3 : Int} {σ : ZSto} (hn : 104 ≤ n)  (hx1 : R32 x1) (hx2 : R32 x2) (hx3 : R32 x3)
    (h : (0 ≤ x1 ∧ x1 < 2) ∧ P (sI (sI (sI σ 81 x1.toNat 0) 82 x1.toNat x2) 83 x1.toNat x3)) :
    ZkV X M_X10_empties (d + 1) n [.ref (zB X + 73), iV x1, iV x2, iV x3] σ P := by
  refine zk_of (ls := [some (.ref (zB X + 73)), some (iV x1), some (iV x2), some (iV x3)]) pl_RX10 (Nat.le_of_ble_eq_true rfl) rfl (fun k0 => ?_)
  unfold Zn
  refine r_aload_n dX10_empties_0 rfl ?_
  refine r_getP (a := 81) dX10_empties_1 kf_RX10_33 (zlt hn rfl) sh_73 rfl (k0.1 _ _ _ (zlt hn rfl) p_73_7) ?_
  refine r_iload_n dX10_empties_4 rfl ?_
  refine r_iconst dX10_empties_5 ?_
  obtain ⟨h1, h2⟩ := h
  refine r_iastore dX10_empties_6 (zlt hn rfl) sh_81 h1.1 h1.2 ?_
  have k3 := zok_i (i := x1.toNat) (x := 0) k0 sh_81 (r32c rfl)
  refine r_aload_n dX10_empties_7 rfl ?_
  refine r_getP (a := 82) dX10_empties_8 kf_RX10_36 (zlt hn rfl) sh_73 rfl (k3.1 _ _ _ (zlt hn rfl) p_73_8) ?_
  refine r_iload_n dX10_empties_11 rfl ?_
  refine r_iload_n dX10_empties_12 rfl ?_
  refine r_iastore dX10_empties_13 (zlt hn rfl) sh_82 h1.1 h1.2 ?_
  have k4 := zok_i (i := x1.toNat) (x := x2) k3 sh_82 hx2
  refine r_aload_n dX10_empties_14 rfl ?_
  refine r_getP (a := 83) dX10_empties_15 kf_RX10_39 (zlt hn rfl) sh_73 rfl (k4.1 _ _ _ (zlt hn rfl) p_73_9) ?_
  refine r_iload_n dX10_empties_18 rfl ?_
  refine r_iload_n dX10_empties_19 rfl ?_
  refine r_iastore dX10_empties_20 (zlt hn rfl) sh_83 h1.1 h1.2 ?_
  have k5 := zok_i (i := x1.toNat) (x := x3) k4 sh_83 hx3
  exact r_return dX10_empties_21 rfl ⟨k5, rfl, h2⟩
/-! StoneRoomModel.opens -/
theorem dX10_opens_0 : decode M_X10_opens.2.1 0 = .ok (.aload_n 0, 1) := by decide +kernel
theorem dX10_opens_1 : decode M_X10_opens.2.1 1 = .ok (.iload_n 1, 1) := by decide +kernel
theorem dX10_opens_2 : decode M_X10_opens.2.1 2 = .ok (.iconst (-1), 1) := by decide +kernel
theorem dX10_opens_3 : decode M_X10_opens.2.1 3 = .ok (.invokevirtual 125, 3) := by decide +kernel
theorem dX10_opens_6 : decode M_X10_opens.2.1 6 = .ok (.istore_n 2, 1) := by decide +kernel
theorem dX10_opens_7 : decode M_X10_opens.2.1 7 = .ok (.aload_n 0, 1) := by decide +kernel
theorem dX10_opens_8 : decode M_X10_opens.2.1 8 = .ok (.iload_n 1, 1) := by decide +kernel
theorem dX10_opens_9 : decode M_X10_opens.2.1 9 = .ok (.iload_n 2, 1) := by decide +kernel
theorem dX10_opens_10 : decode M_X10_opens.2.1 10 = .ok (.invokevirtual 129, 3) := by decide +kernel
theorem dX10_opens_13 : decode M_X10_opens.2.1 13 = .ok (.return_, 1) := by decide +kernel
theorem w_X10_opens {X : ZX} {d n : Nat} {P : ZSto → Prop} {x1 : Int} {σ : ZSto} (hn : 104 ≤ n)  (hx1 : R32 x1)
    (h : ZkI X M_X10_comes d n [.ref (zB X + 73), iV x1, iV ((-1))] σ (fun v1 σ2 => ZkV X M_X10_settles d n [.ref (zB X + 73), iV x1, iV v1] σ2 (fun σ7 => P σ7))) :
    ZkV X M_X10_opens (d + 1) n [.ref (zB X + 73), iV x1] σ P := by
  refine zk_of (ls := [some (.ref (zB X + 73)), some (iV x1), none]) pl_RX10 (Nat.le_of_ble_eq_true rfl) rfl (fun k0 => ?_)
  unfold Zn
  refine r_aload_n dX10_opens_0 rfl ?_
  refine r_iload_n dX10_opens_1 rfl ?_
  refine r_iconst dX10_opens_2 ?_
  refine n_callV (N := M_X10_comes) (As := [iV x1, iV ((-1))]) (st := []) dX10_opens_3 mk_X10_comes km_RX10_125 kd_X10_comes rfl (zlt hn rfl) sh_73 (q := (RX10, TX10, 52)) rfl rfl (zFits_rm d n n n (Nat.le_refl n)) (Nat.le_of_ble_eq_true rfl) rfl k0 h ?_
  rintro _ σ2 k3 ⟨v1, rfl, h4, h5⟩
  change Zm _ _ _ _ _ _ 6 _ [iV v1] _
  refine r_istore_n dX10_opens_6 rfl rfl ?_
  refine r_aload_n dX10_opens_7 rfl ?_
  refine r_iload_n dX10_opens_8 rfl ?_
  refine r_iload_n dX10_opens_9 rfl ?_
  refine n_callV (N := M_X10_settles) (As := [iV x1, iV v1]) (st := []) dX10_opens_10 mk_X10_settles km_RX10_129 kd_X10_settles rfl (zlt hn rfl) sh_73 (q := (RX10, TX10, 52)) rfl rfl (zFits_rm d n n n (Nat.le_refl n)) (Nat.le_of_ble_eq_true rfl) rfl k3 h5 ?_
  rintro _ σ7 k8 ⟨rfl, h10⟩
  change Zm _ _ _ _ _ _ 13 _ [] _
  exact r_return dX10_opens_13 rfl ⟨k8, rfl, h10⟩
/-! StoneRoomModel.comes -/
theorem dX10_comes_0 : decode M_X10_comes.2.1 0 = .ok (.sipush 250, 3) := by decide +kernel
theorem dX10_comes_3 : decode M_X10_comes.2.1 3 = .ok (.iload_n 1, 1) := by decide +kernel
theorem dX10_comes_4 : decode M_X10_comes.2.1 4 = .ok (.imul, 1) := by decide +kernel
theorem dX10_comes_5 : decode M_X10_comes.2.1 5 = .ok (.aload_n 0, 1) := by decide +kernel
theorem dX10_comes_6 : decode M_X10_comes.2.1 6 = .ok (.getfield 33, 3) := by decide +kernel
theorem dX10_comes_9 : decode M_X10_comes.2.1 9 = .ok (.iload_n 1, 1) := by decide +kernel
theorem dX10_comes_10 : decode M_X10_comes.2.1 10 = .ok (.iaload, 1) := by decide +kernel
theorem dX10_comes_11 : decode M_X10_comes.2.1 11 = .ok (.iadd, 1) := by decide +kernel
theorem dX10_comes_12 : decode M_X10_comes.2.1 12 = .ok (.istore_n 3, 1) := by decide +kernel
theorem dX10_comes_13 : decode M_X10_comes.2.1 13 = .ok (.aload_n 0, 1) := by decide +kernel
theorem dX10_comes_14 : decode M_X10_comes.2.1 14 = .ok (.getfield 7, 3) := by decide +kernel
theorem dX10_comes_17 : decode M_X10_comes.2.1 17 = .ok (.iload_n 3, 1) := by decide +kernel
theorem dX10_comes_18 : decode M_X10_comes.2.1 18 = .ok (.iload_n 2, 1) := by decide +kernel
theorem dX10_comes_19 : decode M_X10_comes.2.1 19 = .ok (.iastore, 1) := by decide +kernel
theorem dX10_comes_20 : decode M_X10_comes.2.1 20 = .ok (.aload_n 0, 1) := by decide +kernel
theorem dX10_comes_21 : decode M_X10_comes.2.1 21 = .ok (.getfield 13, 3) := by decide +kernel
theorem dX10_comes_24 : decode M_X10_comes.2.1 24 = .ok (.iload_n 3, 1) := by decide +kernel
theorem dX10_comes_25 : decode M_X10_comes.2.1 25 = .ok (.iconst 0, 1) := by decide +kernel
theorem dX10_comes_26 : decode M_X10_comes.2.1 26 = .ok (.iastore, 1) := by decide +kernel
theorem dX10_comes_27 : decode M_X10_comes.2.1 27 = .ok (.aload_n 0, 1) := by decide +kernel
theorem dX10_comes_28 : decode M_X10_comes.2.1 28 = .ok (.getfield 16, 3) := by decide +kernel
theorem dX10_comes_31 : decode M_X10_comes.2.1 31 = .ok (.iload_n 3, 1) := by decide +kernel
theorem dX10_comes_32 : decode M_X10_comes.2.1 32 = .ok (.iconst 0, 1) := by decide +kernel
theorem dX10_comes_33 : decode M_X10_comes.2.1 33 = .ok (.iastore, 1) := by decide +kernel
theorem dX10_comes_34 : decode M_X10_comes.2.1 34 = .ok (.aload_n 0, 1) := by decide +kernel
theorem dX10_comes_35 : decode M_X10_comes.2.1 35 = .ok (.getfield 19, 3) := by decide +kernel
theorem dX10_comes_38 : decode M_X10_comes.2.1 38 = .ok (.iload_n 3, 1) := by decide +kernel
theorem dX10_comes_39 : decode M_X10_comes.2.1 39 = .ok (.iconst (-1), 1) := by decide +kernel
theorem dX10_comes_40 : decode M_X10_comes.2.1 40 = .ok (.iastore, 1) := by decide +kernel
theorem dX10_comes_41 : decode M_X10_comes.2.1 41 = .ok (.aload_n 0, 1) := by decide +kernel
theorem dX10_comes_42 : decode M_X10_comes.2.1 42 = .ok (.getfield 22, 3) := by decide +kernel
theorem dX10_comes_45 : decode M_X10_comes.2.1 45 = .ok (.iload_n 3, 1) := by decide +kernel
theorem dX10_comes_46 : decode M_X10_comes.2.1 46 = .ok (.iconst 0, 1) := by decide +kernel
theorem dX10_comes_47 : decode M_X10_comes.2.1 47 = .ok (.iastore, 1) := by decide +kernel
theorem dX10_comes_48 : decode M_X10_comes.2.1 48 = .ok (.iconst 0, 1) := by decide +kernel
theorem dX10_comes_49 : decode M_X10_comes.2.1 49 = .ok (.istore 4, 2) := by decide +kernel
theorem dX10_comes_51 : decode M_X10_comes.2.1 51 = .ok (.iload 4, 2) := by decide +kernel
theorem dX10_comes_53 : decode M_X10_comes.2.1 53 = .ok (.bipush 81, 2) := by decide +kernel
theorem dX10_comes_55 : decode M_X10_comes.2.1 55 = .ok (.if_icmp .ge 22, 3) := by decide +kernel
theorem dX10_comes_58 : decode M_X10_comes.2.1 58 = .ok (.aload_n 0, 1) := by decide +kernel
theorem dX10_comes_59 : decode M_X10_comes.2.1 59 = .ok (.getfield 30, 3) := by decide +kernel
theorem dX10_comes_62 : decode M_X10_comes.2.1 62 = .ok (.bipush 81, 2) := by decide +kernel
theorem dX10_comes_64 : decode M_X10_comes.2.1 64 = .ok (.iload_n 3, 1) := by decide +kernel
theorem dX10_comes_65 : decode M_X10_comes.2.1 65 = .ok (.imul, 1) := by decide +kernel
theorem dX10_comes_66 : decode M_X10_comes.2.1 66 = .ok (.iload 4, 2) := by decide +kernel
theorem dX10_comes_68 : decode M_X10_comes.2.1 68 = .ok (.iadd, 1) := by decide +kernel
theorem dX10_comes_69 : decode M_X10_comes.2.1 69 = .ok (.iconst 3, 1) := by decide +kernel
theorem dX10_comes_70 : decode M_X10_comes.2.1 70 = .ok (.bastore, 1) := by decide +kernel
theorem dX10_comes_71 : decode M_X10_comes.2.1 71 = .ok (.iinc 4 1, 3) := by decide +kernel
theorem dX10_comes_74 : decode M_X10_comes.2.1 74 = .ok (.goto (-23), 3) := by decide +kernel
theorem dX10_comes_77 : decode M_X10_comes.2.1 77 = .ok (.aload_n 0, 1) := by decide +kernel
theorem dX10_comes_78 : decode M_X10_comes.2.1 78 = .ok (.getfield 33, 3) := by decide +kernel
theorem dX10_comes_81 : decode M_X10_comes.2.1 81 = .ok (.iload_n 1, 1) := by decide +kernel
theorem dX10_comes_82 : decode M_X10_comes.2.1 82 = .ok (.dup2, 1) := by decide +kernel
theorem dX10_comes_83 : decode M_X10_comes.2.1 83 = .ok (.iaload, 1) := by decide +kernel
theorem dX10_comes_84 : decode M_X10_comes.2.1 84 = .ok (.iconst 1, 1) := by decide +kernel
theorem dX10_comes_85 : decode M_X10_comes.2.1 85 = .ok (.iadd, 1) := by decide +kernel
theorem dX10_comes_86 : decode M_X10_comes.2.1 86 = .ok (.iastore, 1) := by decide +kernel
theorem dX10_comes_87 : decode M_X10_comes.2.1 87 = .ok (.iload_n 3, 1) := by decide +kernel
theorem dX10_comes_88 : decode M_X10_comes.2.1 88 = .ok (.ireturn, 1) := by decide +kernel
def L_X10_comes_51 (X : ZX) (d n : Nat) (P : Option Value → ZSto → Prop) (x1 : Int) (x3 : Int) (x4 : Int) (σ : ZSto) : Prop := R32 x1 → R32 x3 → R32 x4 → ZOk n σ → Zn X M_X10_comes d n P 51 [some (.ref (zB X + 73)), some (iV x1), none, some (iV x3), some (iV x4)] [] σ
theorem w_X10_comes {X : ZX} {d n : Nat} {P : Int → ZSto → Prop} {x1 : Int} {x2 : Int} {σ : ZSto} (hn : 104 ≤ n)  (hx1 : R32 x1) (hx2 : R32 x2)
    (h : (0 ≤ x1 ∧ x1 < 2) ∧ (∀ y3 : Int, y3 = (250 * x1) + (gI σ 81 x1.toNat) → (0 ≤ y3 ∧ y3 < 500) ∧ R32 y3 ∧ L_X10_comes_51 X d n (zpI P) x1 y3 0 (sI (sI (sI (sI (sI σ 74 y3.toNat x2) 75 y3.toNat 0) 76 y3.toNat 0) 77 y3.toNat ((-1))) 78 y3.toNat 0))) :
    ZkI X M_X10_comes (d + 1) n [.ref (zB X + 73), iV x1, iV x2] σ P := by
  refine zk_of (ls := [some (.ref (zB X + 73)), some (iV x1), some (iV x2), none, none]) pl_RX10 (Nat.le_of_ble_eq_true rfl) rfl (fun k0 => ?_)
  unfold Zn
  refine r_sipush dX10_comes_0 rfl ?_
  refine r_iload_n dX10_comes_3 rfl ?_
  refine r_imul dX10_comes_4 ?_
  refine r_aload_n dX10_comes_5 rfl ?_
  refine r_getP (a := 81) dX10_comes_6 kf_RX10_33 (zlt hn rfl) sh_73 rfl (k0.1 _ _ _ (zlt hn rfl) p_73_7) ?_
  refine r_iload_n dX10_comes_9 rfl ?_
  obtain ⟨h1, h2⟩ := h
  refine r_ialoadE dX10_comes_10 (zlt hn rfl) sh_81 h1.1 h1.2 rfl ?_
  refine r_iadd dX10_comes_11 ?_
  refine r_name (fun y3 e4 => ?_)
  have h5 := h2 y3 e4
  refine r_istore_n dX10_comes_12 rfl rfl ?_
  refine r_aload_n dX10_comes_13 rfl ?_
  refine r_getP (a := 74) dX10_comes_14 kf_RX10_7 (zlt hn rfl) sh_73 rfl (k0.1 _ _ _ (zlt hn rfl) p_73_0) ?_
  refine r_iload_n dX10_comes_17 rfl ?_
  refine r_iload_n dX10_comes_18 rfl ?_
  obtain ⟨h6, h7⟩ := h5
  refine r_iastore dX10_comes_19 (zlt hn rfl) sh_74 h6.1 h6.2 ?_
  have k8 := zok_i (i := y3.toNat) (x := x2) k0 sh_74 hx2
  refine r_aload_n dX10_comes_20 rfl ?_
  refine r_getP (a := 75) dX10_comes_21 kf_RX10_13 (zlt hn rfl) sh_73 rfl (k8.1 _ _ _ (zlt hn rfl) p_73_1) ?_
  refine r_iload_n dX10_comes_24 rfl ?_
  refine r_iconst dX10_comes_25 ?_
  refine r_iastore dX10_comes_26 (zlt hn rfl) sh_75 h6.1 h6.2 ?_
  have k9 := zok_i (i := y3.toNat) (x := 0) k8 sh_75 (r32c rfl)
  refine r_aload_n dX10_comes_27 rfl ?_
  refine r_getP (a := 76) dX10_comes_28 kf_RX10_16 (zlt hn rfl) sh_73 rfl (k9.1 _ _ _ (zlt hn rfl) p_73_2) ?_
  refine r_iload_n dX10_comes_31 rfl ?_
  refine r_iconst dX10_comes_32 ?_
  refine r_iastore dX10_comes_33 (zlt hn rfl) sh_76 h6.1 h6.2 ?_
  have k10 := zok_i (i := y3.toNat) (x := 0) k9 sh_76 (r32c rfl)
  refine r_aload_n dX10_comes_34 rfl ?_
  refine r_getP (a := 77) dX10_comes_35 kf_RX10_19 (zlt hn rfl) sh_73 rfl (k10.1 _ _ _ (zlt hn rfl) p_73_3) ?_
  refine r_iload_n dX10_comes_38 rfl ?_
  refine r_iconst dX10_comes_39 ?_
  refine r_iastore dX10_comes_40 (zlt hn rfl) sh_77 h6.1 h6.2 ?_
  have k11 := zok_i (i := y3.toNat) (x := (-1)) k10 sh_77 (r32c rfl)
  refine r_aload_n dX10_comes_41 rfl ?_
  refine r_getP (a := 78) dX10_comes_42 kf_RX10_22 (zlt hn rfl) sh_73 rfl (k11.1 _ _ _ (zlt hn rfl) p_73_4) ?_
  refine r_iload_n dX10_comes_45 rfl ?_
  refine r_iconst dX10_comes_46 ?_
  refine r_iastore dX10_comes_47 (zlt hn rfl) sh_78 h6.1 h6.2 ?_
  have k12 := zok_i (i := y3.toNat) (x := 0) k11 sh_78 (r32c rfl)
  refine r_iconst dX10_comes_48 ?_
  refine r_istore dX10_comes_49 rfl rfl ?_
  obtain ⟨h13, h14⟩ := h7
  exact r_mask [true, true, false, true, true] rfl (h14 hx1 h13 (r32c rfl) k12)
theorem b_X10_comes_51 {X : ZX} {d n : Nat} {P : Int → ZSto → Prop} {x1 : Int} {x3 : Int} {x4 : Int} {σ : ZSto} (hn : 104 ≤ n) 
    (h : (81 ≤ x4 → (0 ≤ x1 ∧ x1 < 2) ∧ R32 ((gI σ 81 x1.toNat) + 1) ∧ P x3 (sI σ 81 x1.toNat ((gI σ 81 x1.toNat) + 1))) ∧ (¬ (81 ≤ x4) → (0 ≤ (81 * x3) + x4 ∧ (81 * x3) + x4 < 40500) ∧ R32 (x4 + 1) ∧ L_X10_comes_51 X d n (zpI P) x1 x3 (x4 + 1) (sI σ 80 (((81 * x3) + x4).toNat) 3))) :
    L_X10_comes_51 X d n (zpI P) x1 x3 x4 σ := by
  intro hx1 hx3 hx4 k0
  unfold Zn
  refine r_iload dX10_comes_51 rfl ?_
  refine r_bipush dX10_comes_53 rfl ?_
  refine r_icmp_ge (t := 77) dX10_comes_55 rfl hx4 (r32c rfl) (fun c1 => ?_) (fun c2 => ?_)
  · have h3 := h.1 c1
    refine r_aload_n dX10_comes_77 rfl ?_
    refine r_getP (a := 81) dX10_comes_78 kf_RX10_33 (zlt hn rfl) sh_73 rfl (k0.1 _ _ _ (zlt hn rfl) p_73_7) ?_
    refine r_iload_n dX10_comes_81 rfl ?_
    refine r_dup2 dX10_comes_82 rfl rfl ?_
    obtain ⟨h4, h5⟩ := h3
    refine r_ialoadE dX10_comes_83 (zlt hn rfl) sh_81 h4.1 h4.2 rfl ?_
    refine r_iconst dX10_comes_84 ?_
    refine r_iadd dX10_comes_85 ?_
    obtain ⟨h7, h8⟩ := h5
    refine r_iastore dX10_comes_86 (zlt hn rfl) sh_81 h4.1 h4.2 ?_
    have k6 := zok_i (i := x1.toNat) (x := (gI σ 81 x1.toNat) + 1) k0 sh_81 h7
    refine r_iload_n dX10_comes_87 rfl ?_
    exact r_ireturn dX10_comes_88 rfl ⟨k6, _, rfl, hx3, h8⟩
  · have h9 := h.2 c2
    refine r_aload_n dX10_comes_58 rfl ?_
    refine r_getP (a := 80) dX10_comes_59 kf_RX10_30 (zlt hn rfl) sh_73 rfl (k0.1 _ _ _ (zlt hn rfl) p_73_6) ?_
    refine r_bipush dX10_comes_62 rfl ?_
    refine r_iload_n dX10_comes_64 rfl ?_
    refine r_imul dX10_comes_65 ?_
    refine r_iload dX10_comes_66 rfl ?_
    refine r_iadd dX10_comes_68 ?_
    refine r_iconst dX10_comes_69 ?_
    obtain ⟨h10, h11⟩ := h9
    refine r_bastore dX10_comes_70 (zlt hn rfl) sh_80 h10.1 h10.2 (by decide) (by decide) ?_
    have k12 := zok_b (i := ((81 * x3) + x4).toNat) (x := 3) k0 sh_80 (by decide) (by decide)
    refine r_iinc dX10_comes_71 rfl rfl rfl ?_
    refine r_goto (t := 51) dX10_comes_74 rfl ?_
    obtain ⟨h13, h14⟩ := h11
    exact r_mask [true, true, false, true, true] rfl (h14 hx1 hx3 h13 k12)
/-! StoneRoomModel.load -/
theorem dX10_load_0 : decode M_X10_load.2.1 0 = .ok (.iconst 0, 1) := by decide +kernel
theorem dX10_load_1 : decode M_X10_load.2.1 1 = .ok (.istore_n 2, 1) := by decide +kernel
theorem dX10_load_2 : decode M_X10_load.2.1 2 = .ok (.iload_n 2, 1) := by decide +kernel
theorem dX10_load_3 : decode M_X10_load.2.1 3 = .ok (.bipush 81, 2) := by decide +kernel
theorem dX10_load_5 : decode M_X10_load.2.1 5 = .ok (.if_icmp .ge 34, 3) := by decide +kernel
theorem dX10_load_8 : decode M_X10_load.2.1 8 = .ok (.aload_n 0, 1) := by decide +kernel
theorem dX10_load_9 : decode M_X10_load.2.1 9 = .ok (.getfield 46, 3) := by decide +kernel
theorem dX10_load_12 : decode M_X10_load.2.1 12 = .ok (.iload_n 2, 1) := by decide +kernel
theorem dX10_load_13 : decode M_X10_load.2.1 13 = .ok (.iload_n 1, 1) := by decide +kernel
theorem dX10_load_14 : decode M_X10_load.2.1 14 = .ok (.ifCond .ge 7, 3) := by decide +kernel
theorem dX10_load_17 : decode M_X10_load.2.1 17 = .ok (.iconst 0, 1) := by decide +kernel
theorem dX10_load_18 : decode M_X10_load.2.1 18 = .ok (.goto 14, 3) := by decide +kernel
theorem dX10_load_21 : decode M_X10_load.2.1 21 = .ok (.aload_n 0, 1) := by decide +kernel
theorem dX10_load_22 : decode M_X10_load.2.1 22 = .ok (.getfield 26, 3) := by decide +kernel
theorem dX10_load_25 : decode M_X10_load.2.1 25 = .ok (.bipush 81, 2) := by decide +kernel
theorem dX10_load_27 : decode M_X10_load.2.1 27 = .ok (.iload_n 1, 1) := by decide +kernel
theorem dX10_load_28 : decode M_X10_load.2.1 28 = .ok (.imul, 1) := by decide +kernel
theorem dX10_load_29 : decode M_X10_load.2.1 29 = .ok (.iload_n 2, 1) := by decide +kernel
theorem dX10_load_30 : decode M_X10_load.2.1 30 = .ok (.iadd, 1) := by decide +kernel
theorem dX10_load_31 : decode M_X10_load.2.1 31 = .ok (.baload, 1) := by decide +kernel
theorem dX10_load_32 : decode M_X10_load.2.1 32 = .ok (.bastore, 1) := by decide +kernel
theorem dX10_load_33 : decode M_X10_load.2.1 33 = .ok (.iinc 2 1, 3) := by decide +kernel
theorem dX10_load_36 : decode M_X10_load.2.1 36 = .ok (.goto (-34), 3) := by decide +kernel
theorem dX10_load_39 : decode M_X10_load.2.1 39 = .ok (.return_, 1) := by decide +kernel
def L_X10_load_2 (X : ZX) (d n : Nat) (P : Option Value → ZSto → Prop) (x1 : Int) (x2 : Int) (σ : ZSto) : Prop := R32 x1 → R32 x2 → ZOk n σ → Zn X M_X10_load d n P 2 [some (.ref (zB X + 73)), some (iV x1), some (iV x2)] [] σ
theorem w_X10_load {X : ZX} {d n : Nat} {P : ZSto → Prop} {x1 : Int} {σ : ZSto} (hn : 104 ≤ n)  (hx1 : R32 x1)
    (h : L_X10_load_2 X d n (zpV P) x1 0 σ) :
    ZkV X M_X10_load (d + 1) n [.ref (zB X + 73), iV x1] σ P := by
  refine zk_of (ls := [some (.ref (zB X + 73)), some (iV x1), none]) pl_RX10 (Nat.le_of_ble_eq_true rfl) rfl (fun k0 => ?_)
  unfold Zn
  refine r_iconst dX10_load_0 ?_
  refine r_istore_n dX10_load_1 rfl rfl ?_
  exact r_mask [true, true, true] rfl (h hx1 (r32c rfl) k0)
theorem b_X10_load_2 {X : ZX} {d n : Nat} {P : ZSto → Prop} {x1 : Int} {x2 : Int} {σ : ZSto} (hn : 104 ≤ n) 
    (h : (81 ≤ x2 → P σ) ∧ (¬ (81 ≤ x2) → (0 ≤ x1 → (0 ≤ (81 * x1) + x2 ∧ (81 * x1) + x2 < 40500) ∧ (0 ≤ x2 ∧ x2 < 81) ∧ R32 (x2 + 1) ∧ L_X10_load_2 X d n (zpV P) x1 (x2 + 1) (sI σ 84 x2.toNat (gI σ 79 (((81 * x1) + x2).toNat)))) ∧ (¬ (0 ≤ x1) → (0 ≤ x2 ∧ x2 < 81) ∧ R32 (x2 + 1) ∧ L_X10_load_2 X d n (zpV P) x1 (x2 + 1) (sI σ 84 x2.toNat 0)))) :
    L_X10_load_2 X d n (zpV P) x1 x2 σ := by
  intro hx1 hx2 k0
  unfold Zn
  refine r_iload_n dX10_load_2 rfl ?_
  refine r_bipush dX10_load_3 rfl ?_
  refine r_icmp_ge (t := 39) dX10_load_5 rfl hx2 (r32c rfl) (fun c1 => ?_) (fun c2 => ?_)
  · have h3 := h.1 c1
    exact r_return dX10_load_39 rfl ⟨k0, rfl, h3⟩
  · have h4 := h.2 c2
    refine r_aload_n dX10_load_8 rfl ?_
    refine r_getP (a := 84) dX10_load_9 kf_RX10_46 (zlt hn rfl) sh_73 rfl (k0.1 _ _ _ (zlt hn rfl) p_73_14) ?_
    refine r_iload_n dX10_load_12 rfl ?_
    refine r_iload_n dX10_load_13 rfl ?_
    refine r_if_ge (t := 21) dX10_load_14 rfl hx1  (fun c5 => ?_) (fun c6 => ?_)
    · have h7 := h4.1 c5
      refine r_aload_n dX10_load_21 rfl ?_
      refine r_getP (a := 79) dX10_load_22 kf_RX10_26 (zlt hn rfl) sh_73 rfl (k0.1 _ _ _ (zlt hn rfl) p_73_5) ?_
      refine r_bipush dX10_load_25 rfl ?_
      refine r_iload_n dX10_load_27 rfl ?_
      refine r_imul dX10_load_28 ?_
      refine r_iload_n dX10_load_29 rfl ?_
      refine r_iadd dX10_load_30 ?_
      obtain ⟨h8, h9⟩ := h7
      refine r_baloadE dX10_load_31 (zlt hn rfl) sh_79 h8.1 h8.2 rfl ?_
      obtain ⟨h10, h11⟩ := h9
      refine r_bastore dX10_load_32 (zlt hn rfl) sh_84 h10.1 h10.2 (zok_by k0 sh_79).1 (zok_by k0 sh_79).2 ?_
      have k12 := zok_b (i := x2.toNat) (x := gI σ 79 (((81 * x1) + x2).toNat)) k0 sh_84 (zok_by k0 sh_79).1 (zok_by k0 sh_79).2
      refine r_iinc dX10_load_33 rfl rfl rfl ?_
      refine r_goto (t := 2) dX10_load_36 rfl ?_
      obtain ⟨h13, h14⟩ := h11
      exact r_mask [true, true, true] rfl (h14 hx1 h13 k12)
    · have h15 := h4.2 c6
      refine r_iconst dX10_load_17 ?_
      refine r_goto (t := 32) dX10_load_18 rfl ?_
      obtain ⟨h16, h17⟩ := h15
      refine r_bastore dX10_load_32 (zlt hn rfl) sh_84 h16.1 h16.2 (by decide) (by decide) ?_
      have k18 := zok_b (i := x2.toNat) (x := 0) k0 sh_84 (by decide) (by decide)
      refine r_iinc dX10_load_33 rfl rfl rfl ?_
      refine r_goto (t := 2) dX10_load_36 rfl ?_
      obtain ⟨h19, h20⟩ := h17
      exact r_mask [true, true, true] rfl (h20 hx1 h19 k18)
/-! StoneRoomModel.keep -/
theorem dX10_keep_0 : decode M_X10_keep.2.1 0 = .ok (.iconst 0, 1) := by decide +kernel
theorem dX10_keep_1 : decode M_X10_keep.2.1 1 = .ok (.istore_n 2, 1) := by decide +kernel
theorem dX10_keep_2 : decode M_X10_keep.2.1 2 = .ok (.iload_n 2, 1) := by decide +kernel
theorem dX10_keep_3 : decode M_X10_keep.2.1 3 = .ok (.bipush 81, 2) := by decide +kernel
theorem dX10_keep_5 : decode M_X10_keep.2.1 5 = .ok (.if_icmp .ge 26, 3) := by decide +kernel
theorem dX10_keep_8 : decode M_X10_keep.2.1 8 = .ok (.aload_n 0, 1) := by decide +kernel
theorem dX10_keep_9 : decode M_X10_keep.2.1 9 = .ok (.getfield 26, 3) := by decide +kernel
theorem dX10_keep_12 : decode M_X10_keep.2.1 12 = .ok (.bipush 81, 2) := by decide +kernel
theorem dX10_keep_14 : decode M_X10_keep.2.1 14 = .ok (.iload_n 1, 1) := by decide +kernel
theorem dX10_keep_15 : decode M_X10_keep.2.1 15 = .ok (.imul, 1) := by decide +kernel
theorem dX10_keep_16 : decode M_X10_keep.2.1 16 = .ok (.iload_n 2, 1) := by decide +kernel
theorem dX10_keep_17 : decode M_X10_keep.2.1 17 = .ok (.iadd, 1) := by decide +kernel
theorem dX10_keep_18 : decode M_X10_keep.2.1 18 = .ok (.aload_n 0, 1) := by decide +kernel
theorem dX10_keep_19 : decode M_X10_keep.2.1 19 = .ok (.getfield 46, 3) := by decide +kernel
theorem dX10_keep_22 : decode M_X10_keep.2.1 22 = .ok (.iload_n 2, 1) := by decide +kernel
theorem dX10_keep_23 : decode M_X10_keep.2.1 23 = .ok (.baload, 1) := by decide +kernel
theorem dX10_keep_24 : decode M_X10_keep.2.1 24 = .ok (.bastore, 1) := by decide +kernel
theorem dX10_keep_25 : decode M_X10_keep.2.1 25 = .ok (.iinc 2 1, 3) := by decide +kernel
theorem dX10_keep_28 : decode M_X10_keep.2.1 28 = .ok (.goto (-26), 3) := by decide +kernel
theorem dX10_keep_31 : decode M_X10_keep.2.1 31 = .ok (.return_, 1) := by decide +kernel
def L_X10_keep_2 (X : ZX) (d n : Nat) (P : Option Value → ZSto → Prop) (x1 : Int) (x2 : Int) (σ : ZSto) : Prop := R32 x1 → R32 x2 → ZOk n σ → Zn X M_X10_keep d n P 2 [some (.ref (zB X + 73)), some (iV x1), some (iV x2)] [] σ
theorem w_X10_keep {X : ZX} {d n : Nat} {P : ZSto → Prop} {x1 : Int} {σ : ZSto} (hn : 104 ≤ n)  (hx1 : R32 x1)
    (h : L_X10_keep_2 X d n (zpV P) x1 0 σ) :
    ZkV X M_X10_keep (d + 1) n [.ref (zB X + 73), iV x1] σ P := by
  refine zk_of (ls := [some (.ref (zB X + 73)), some (iV x1), none]) pl_RX10 (Nat.le_of_ble_eq_true rfl) rfl (fun k0 => ?_)
  unfold Zn
  refine r_iconst dX10_keep_0 ?_
  refine r_istore_n dX10_keep_1 rfl rfl ?_
  exact r_mask [true, true, true] rfl (h hx1 (r32c rfl) k0)
theorem b_X10_keep_2 {X : ZX} {d n : Nat} {P : ZSto → Prop} {x1 : Int} {x2 : Int} {σ : ZSto} (hn : 104 ≤ n) 
    (h : (81 ≤ x2 → P σ) ∧ (¬ (81 ≤ x2) → (0 ≤ x2 ∧ x2 < 81) ∧ (0 ≤ (81 * x1) + x2 ∧ (81 * x1) + x2 < 40500) ∧ R32 (x2 + 1) ∧ L_X10_keep_2 X d n (zpV P) x1 (x2 + 1) (sI σ 79 (((81 * x1) + x2).toNat) (gI σ 84 x2.toNat)))) :
    L_X10_keep_2 X d n (zpV P) x1 x2 σ := by
  intro hx1 hx2 k0
  unfold Zn
  refine r_iload_n dX10_keep_2 rfl ?_
  refine r_bipush dX10_keep_3 rfl ?_
  refine r_icmp_ge (t := 31) dX10_keep_5 rfl hx2 (r32c rfl) (fun c1 => ?_) (fun c2 => ?_)
  · have h3 := h.1 c1
    exact r_return dX10_keep_31 rfl ⟨k0, rfl, h3⟩
  · have h4 := h.2 c2
    refine r_aload_n dX10_keep_8 rfl ?_
    refine r_getP (a := 79) dX10_keep_9 kf_RX10_26 (zlt hn rfl) sh_73 rfl (k0.1 _ _ _ (zlt hn rfl) p_73_5) ?_
    refine r_bipush dX10_keep_12 rfl ?_
    refine r_iload_n dX10_keep_14 rfl ?_
    refine r_imul dX10_keep_15 ?_
    refine r_iload_n dX10_keep_16 rfl ?_
    refine r_iadd dX10_keep_17 ?_
    refine r_aload_n dX10_keep_18 rfl ?_
    refine r_getP (a := 84) dX10_keep_19 kf_RX10_46 (zlt hn rfl) sh_73 rfl (k0.1 _ _ _ (zlt hn rfl) p_73_14) ?_
    refine r_iload_n dX10_keep_22 rfl ?_
    obtain ⟨h5, h6⟩ := h4
    refine r_baloadE dX10_keep_23 (zlt hn rfl) sh_84 h5.1 h5.2 rfl ?_
    obtain ⟨h7, h8⟩ := h6
    refine r_bastore dX10_keep_24 (zlt hn rfl) sh_79 h7.1 h7.2 (zok_by k0 sh_84).1 (zok_by k0 sh_84).2 ?_
    have k9 := zok_b (i := ((81 * x1) + x2).toNat) (x := gI σ 84 x2.toNat) k0 sh_79 (zok_by k0 sh_84).1 (zok_by k0 sh_84).2
    refine r_iinc dX10_keep_25 rfl rfl rfl ?_
    refine r_goto (t := 2) dX10_keep_28 rfl ?_
    obtain ⟨h10, h11⟩ := h8
    exact r_mask [true, true, true] rfl (h11 hx1 h10 k9)
/-! StoneRoomModel.settles -/
theorem dX10_settles_0 : decode M_X10_settles.2.1 0 = .ok (.aload_n 0, 1) := by decide +kernel
theorem dX10_settles_1 : decode M_X10_settles.2.1 1 = .ok (.aload_n 0, 1) := by decide +kernel
theorem dX10_settles_2 : decode M_X10_settles.2.1 2 = .ok (.getfield 7, 3) := by decide +kernel
theorem dX10_settles_5 : decode M_X10_settles.2.1 5 = .ok (.iload_n 2, 1) := by decide +kernel
theorem dX10_settles_6 : decode M_X10_settles.2.1 6 = .ok (.iaload, 1) := by decide +kernel
theorem dX10_settles_7 : decode M_X10_settles.2.1 7 = .ok (.invokevirtual 133, 3) := by decide +kernel
theorem dX10_settles_10 : decode M_X10_settles.2.1 10 = .ok (.iconst 0, 1) := by decide +kernel
theorem dX10_settles_11 : decode M_X10_settles.2.1 11 = .ok (.istore_n 3, 1) := by decide +kernel
theorem dX10_settles_12 : decode M_X10_settles.2.1 12 = .ok (.iload_n 3, 1) := by decide +kernel
theorem dX10_settles_13 : decode M_X10_settles.2.1 13 = .ok (.bipush 81, 2) := by decide +kernel
theorem dX10_settles_15 : decode M_X10_settles.2.1 15 = .ok (.if_icmp .ge 41, 3) := by decide +kernel
theorem dX10_settles_18 : decode M_X10_settles.2.1 18 = .ok (.aload_n 0, 1) := by decide +kernel
theorem dX10_settles_19 : decode M_X10_settles.2.1 19 = .ok (.getfield 30, 3) := by decide +kernel
theorem dX10_settles_22 : decode M_X10_settles.2.1 22 = .ok (.bipush 81, 2) := by decide +kernel
theorem dX10_settles_24 : decode M_X10_settles.2.1 24 = .ok (.iload_n 2, 1) := by decide +kernel
theorem dX10_settles_25 : decode M_X10_settles.2.1 25 = .ok (.imul, 1) := by decide +kernel
theorem dX10_settles_26 : decode M_X10_settles.2.1 26 = .ok (.iload_n 3, 1) := by decide +kernel
theorem dX10_settles_27 : decode M_X10_settles.2.1 27 = .ok (.iadd, 1) := by decide +kernel
theorem dX10_settles_28 : decode M_X10_settles.2.1 28 = .ok (.baload, 1) := by decide +kernel
theorem dX10_settles_29 : decode M_X10_settles.2.1 29 = .ok (.iconst 3, 1) := by decide +kernel
theorem dX10_settles_30 : decode M_X10_settles.2.1 30 = .ok (.if_icmp .ge 20, 3) := by decide +kernel
theorem dX10_settles_33 : decode M_X10_settles.2.1 33 = .ok (.aload_n 0, 1) := by decide +kernel
theorem dX10_settles_34 : decode M_X10_settles.2.1 34 = .ok (.getfield 46, 3) := by decide +kernel
theorem dX10_settles_37 : decode M_X10_settles.2.1 37 = .ok (.iload_n 3, 1) := by decide +kernel
theorem dX10_settles_38 : decode M_X10_settles.2.1 38 = .ok (.aload_n 0, 1) := by decide +kernel
theorem dX10_settles_39 : decode M_X10_settles.2.1 39 = .ok (.getfield 30, 3) := by decide +kernel
theorem dX10_settles_42 : decode M_X10_settles.2.1 42 = .ok (.bipush 81, 2) := by decide +kernel
theorem dX10_settles_44 : decode M_X10_settles.2.1 44 = .ok (.iload_n 2, 1) := by decide +kernel
theorem dX10_settles_45 : decode M_X10_settles.2.1 45 = .ok (.imul, 1) := by decide +kernel
theorem dX10_settles_46 : decode M_X10_settles.2.1 46 = .ok (.iload_n 3, 1) := by decide +kernel
theorem dX10_settles_47 : decode M_X10_settles.2.1 47 = .ok (.iadd, 1) := by decide +kernel
theorem dX10_settles_48 : decode M_X10_settles.2.1 48 = .ok (.baload, 1) := by decide +kernel
theorem dX10_settles_49 : decode M_X10_settles.2.1 49 = .ok (.bastore, 1) := by decide +kernel
theorem dX10_settles_50 : decode M_X10_settles.2.1 50 = .ok (.iinc 3 1, 3) := by decide +kernel
theorem dX10_settles_53 : decode M_X10_settles.2.1 53 = .ok (.goto (-41), 3) := by decide +kernel
theorem dX10_settles_56 : decode M_X10_settles.2.1 56 = .ok (.aload_n 0, 1) := by decide +kernel
theorem dX10_settles_57 : decode M_X10_settles.2.1 57 = .ok (.iload_n 2, 1) := by decide +kernel
theorem dX10_settles_58 : decode M_X10_settles.2.1 58 = .ok (.invokevirtual 136, 3) := by decide +kernel
theorem dX10_settles_61 : decode M_X10_settles.2.1 61 = .ok (.return_, 1) := by decide +kernel
def L_X10_settles_12 (X : ZX) (d n : Nat) (P : Option Value → ZSto → Prop) (x2 : Int) (x3 : Int) (σ : ZSto) : Prop := R32 x2 → R32 x3 → ZOk n σ → Zn X M_X10_settles d n P 12 [some (.ref (zB X + 73)), none, some (iV x2), some (iV x3)] [] σ
theorem w_X10_settles {X : ZX} {d n : Nat} {P : ZSto → Prop} {x1 : Int} {x2 : Int} {σ : ZSto} (hn : 104 ≤ n)  (hx1 : R32 x1) (hx2 : R32 x2)
    (h : (0 ≤ x2 ∧ x2 < 500) ∧ ZkV X M_X10_load d n [.ref (zB X + 73), iV (gI σ 74 x2.toNat)] σ (fun σ4 => L_X10_settles_12 X d n (zpV P) x2 0 σ4)) :
    ZkV X M_X10_settles (d + 1) n [.ref (zB X + 73), iV x1, iV x2] σ P := by
  refine zk_of (ls := [some (.ref (zB X + 73)), some (iV x1), some (iV x2), none]) pl_RX10 (Nat.le_of_ble_eq_true rfl) rfl (fun k0 => ?_)
  unfold Zn
  refine r_aload_n dX10_settles_0 rfl ?_
  refine r_aload_n dX10_settles_1 rfl ?_
  refine r_getP (a := 74) dX10_settles_2 kf_RX10_7 (zlt hn rfl) sh_73 rfl (k0.1 _ _ _ (zlt hn rfl) p_73_0) ?_
  refine r_iload_n dX10_settles_5 rfl ?_
  obtain ⟨h1, h2⟩ := h
  refine r_ialoadE dX10_settles_6 (zlt hn rfl) sh_74 h1.1 h1.2 rfl ?_
  refine n_callV (N := M_X10_load) (As := [iV (gI σ 74 x2.toNat)]) (st := []) dX10_settles_7 mk_X10_load km_RX10_133 kd_X10_load rfl (zlt hn rfl) sh_73 (q := (RX10, TX10, 52)) rfl rfl (zFits_rm d n n n (Nat.le_refl n)) (Nat.le_of_ble_eq_true rfl) rfl k0 h2 ?_
  rintro _ σ4 k5 ⟨rfl, h7⟩
  change Zm _ _ _ _ _ _ 10 _ [] _
  refine r_iconst dX10_settles_10 ?_
  refine r_istore_n dX10_settles_11 rfl rfl ?_
  exact r_mask [true, false, true, true] rfl (h7 hx2 (r32c rfl) k5)
theorem b_X10_settles_12 {X : ZX} {d n : Nat} {P : ZSto → Prop} {x2 : Int} {x3 : Int} {σ : ZSto} (hn : 104 ≤ n) 
    (h : (81 ≤ x3 → ZkV X M_X10_keep d n [.ref (zB X + 73), iV x2] σ (fun σ5 => P σ5)) ∧ (¬ (81 ≤ x3) → (0 ≤ (81 * x2) + x3 ∧ (81 * x2) + x3 < 40500) ∧ (3 ≤ gI σ 80 (((81 * x2) + x3).toNat) → R32 (x3 + 1) ∧ L_X10_settles_12 X d n (zpV P) x2 (x3 + 1) σ) ∧ (¬ (3 ≤ gI σ 80 (((81 * x2) + x3).toNat)) → (0 ≤ x3 ∧ x3 < 81) ∧ R32 (x3 + 1) ∧ L_X10_settles_12 X d n (zpV P) x2 (x3 + 1) (sI σ 84 x3.toNat (gI σ 80 (((81 * x2) + x3).toNat)))))) :
    L_X10_settles_12 X d n (zpV P) x2 x3 σ := by
  intro hx2 hx3 k0
  unfold Zn
  refine r_iload_n dX10_settles_12 rfl ?_
  refine r_bipush dX10_settles_13 rfl ?_
  refine r_icmp_ge (t := 56) dX10_settles_15 rfl hx3 (r32c rfl) (fun c1 => ?_) (fun c2 => ?_)
  · have h3 := h.1 c1
    refine r_aload_n dX10_settles_56 rfl ?_
    refine r_iload_n dX10_settles_57 rfl ?_
    refine n_callV (N := M_X10_keep) (As := [iV x2]) (st := []) dX10_settles_58 mk_X10_keep km_RX10_136 kd_X10_keep rfl (zlt hn rfl) sh_73 (q := (RX10, TX10, 52)) rfl rfl (zFits_rm d n n n (Nat.le_refl n)) (Nat.le_of_ble_eq_true rfl) rfl k0 h3 ?_
    rintro _ σ5 k6 ⟨rfl, h8⟩
    change Zm _ _ _ _ _ _ 61 _ [] _
    exact r_return dX10_settles_61 rfl ⟨k6, rfl, h8⟩
  · have h9 := h.2 c2
    refine r_aload_n dX10_settles_18 rfl ?_
    refine r_getP (a := 80) dX10_settles_19 kf_RX10_30 (zlt hn rfl) sh_73 rfl (k0.1 _ _ _ (zlt hn rfl) p_73_6) ?_
    refine r_bipush dX10_settles_22 rfl ?_
    refine r_iload_n dX10_settles_24 rfl ?_
    refine r_imul dX10_settles_25 ?_
    refine r_iload_n dX10_settles_26 rfl ?_
    refine r_iadd dX10_settles_27 ?_
    obtain ⟨h10, h11⟩ := h9
    refine r_baloadE dX10_settles_28 (zlt hn rfl) sh_80 h10.1 h10.2 rfl ?_
    refine r_iconst dX10_settles_29 ?_
    refine r_icmp_ge (t := 50) dX10_settles_30 rfl (k0.2.1 _ _) (r32c rfl) (fun c12 => ?_) (fun c13 => ?_)
    · have h14 := h11.1 c12
      refine r_iinc dX10_settles_50 rfl rfl rfl ?_
      refine r_goto (t := 12) dX10_settles_53 rfl ?_
      obtain ⟨h15, h16⟩ := h14
      exact r_mask [true, false, true, true] rfl (h16 hx2 h15 k0)
    · have h17 := h11.2 c13
      refine r_aload_n dX10_settles_33 rfl ?_
      refine r_getP (a := 84) dX10_settles_34 kf_RX10_46 (zlt hn rfl) sh_73 rfl (k0.1 _ _ _ (zlt hn rfl) p_73_14) ?_
      refine r_iload_n dX10_settles_37 rfl ?_
      refine r_aload_n dX10_settles_38 rfl ?_
      refine r_getP (a := 80) dX10_settles_39 kf_RX10_30 (zlt hn rfl) sh_73 rfl (k0.1 _ _ _ (zlt hn rfl) p_73_6) ?_
      refine r_bipush dX10_settles_42 rfl ?_
      refine r_iload_n dX10_settles_44 rfl ?_
      refine r_imul dX10_settles_45 ?_
      refine r_iload_n dX10_settles_46 rfl ?_
      refine r_iadd dX10_settles_47 ?_
      refine r_baloadE dX10_settles_48 (zlt hn rfl) sh_80 h10.1 h10.2 rfl ?_
      obtain ⟨h18, h19⟩ := h17
      refine r_bastore dX10_settles_49 (zlt hn rfl) sh_84 h18.1 h18.2 (zok_by k0 sh_80).1 (zok_by k0 sh_80).2 ?_
      have k20 := zok_b (i := x3.toNat) (x := gI σ 80 (((81 * x2) + x3).toNat)) k0 sh_84 (zok_by k0 sh_80).1 (zok_by k0 sh_80).2
      refine r_iinc dX10_settles_50 rfl rfl rfl ?_
      refine r_goto (t := 12) dX10_settles_53 rfl ?_
      obtain ⟨h21, h22⟩ := h19
      exact r_mask [true, false, true, true] rfl (h22 hx2 h21 k20)
/-! StoneRoomModel.beside -/
theorem dX10_beside_0 : decode M_X10_beside.2.1 0 = .ok (.iload_n 1, 1) := by decide +kernel
theorem dX10_beside_1 : decode M_X10_beside.2.1 1 = .ok (.aload_n 0, 1) := by decide +kernel
theorem dX10_beside_2 : decode M_X10_beside.2.1 2 = .ok (.getfield 139, 3) := by decide +kernel
theorem dX10_beside_5 : decode M_X10_beside.2.1 5 = .ok (.idiv, 1) := by decide +kernel
theorem dX10_beside_6 : decode M_X10_beside.2.1 6 = .ok (.istore_n 3, 1) := by decide +kernel
theorem dX10_beside_7 : decode M_X10_beside.2.1 7 = .ok (.iload_n 1, 1) := by decide +kernel
theorem dX10_beside_8 : decode M_X10_beside.2.1 8 = .ok (.aload_n 0, 1) := by decide +kernel
theorem dX10_beside_9 : decode M_X10_beside.2.1 9 = .ok (.getfield 139, 3) := by decide +kernel
theorem dX10_beside_12 : decode M_X10_beside.2.1 12 = .ok (.irem, 1) := by decide +kernel
theorem dX10_beside_13 : decode M_X10_beside.2.1 13 = .ok (.istore 4, 2) := by decide +kernel
theorem dX10_beside_15 : decode M_X10_beside.2.1 15 = .ok (.iload_n 2, 1) := by decide +kernel
theorem dX10_beside_16 : decode M_X10_beside.2.1 16 = .ok (.ifCond .ne 18, 3) := by decide +kernel
theorem dX10_beside_19 : decode M_X10_beside.2.1 19 = .ok (.iload_n 3, 1) := by decide +kernel
theorem dX10_beside_20 : decode M_X10_beside.2.1 20 = .ok (.ifCond .le 12, 3) := by decide +kernel
theorem dX10_beside_23 : decode M_X10_beside.2.1 23 = .ok (.iload_n 1, 1) := by decide +kernel
theorem dX10_beside_24 : decode M_X10_beside.2.1 24 = .ok (.aload_n 0, 1) := by decide +kernel
theorem dX10_beside_25 : decode M_X10_beside.2.1 25 = .ok (.getfield 139, 3) := by decide +kernel
theorem dX10_beside_28 : decode M_X10_beside.2.1 28 = .ok (.isub, 1) := by decide +kernel
theorem dX10_beside_29 : decode M_X10_beside.2.1 29 = .ok (.goto 4, 3) := by decide +kernel
theorem dX10_beside_32 : decode M_X10_beside.2.1 32 = .ok (.iconst (-1), 1) := by decide +kernel
theorem dX10_beside_33 : decode M_X10_beside.2.1 33 = .ok (.ireturn, 1) := by decide +kernel
theorem dX10_beside_34 : decode M_X10_beside.2.1 34 = .ok (.iload_n 2, 1) := by decide +kernel
theorem dX10_beside_35 : decode M_X10_beside.2.1 35 = .ok (.iconst 1, 1) := by decide +kernel
theorem dX10_beside_36 : decode M_X10_beside.2.1 36 = .ok (.if_icmp .ne 24, 3) := by decide +kernel
theorem dX10_beside_39 : decode M_X10_beside.2.1 39 = .ok (.iload_n 3, 1) := by decide +kernel
theorem dX10_beside_40 : decode M_X10_beside.2.1 40 = .ok (.aload_n 0, 1) := by decide +kernel
theorem dX10_beside_41 : decode M_X10_beside.2.1 41 = .ok (.getfield 139, 3) := by decide +kernel
theorem dX10_beside_44 : decode M_X10_beside.2.1 44 = .ok (.iconst 1, 1) := by decide +kernel
theorem dX10_beside_45 : decode M_X10_beside.2.1 45 = .ok (.isub, 1) := by decide +kernel
theorem dX10_beside_46 : decode M_X10_beside.2.1 46 = .ok (.if_icmp .ge 12, 3) := by decide +kernel
theorem dX10_beside_49 : decode M_X10_beside.2.1 49 = .ok (.iload_n 1, 1) := by decide +kernel
theorem dX10_beside_50 : decode M_X10_beside.2.1 50 = .ok (.aload_n 0, 1) := by decide +kernel
theorem dX10_beside_51 : decode M_X10_beside.2.1 51 = .ok (.getfield 139, 3) := by decide +kernel
theorem dX10_beside_54 : decode M_X10_beside.2.1 54 = .ok (.iadd, 1) := by decide +kernel
theorem dX10_beside_55 : decode M_X10_beside.2.1 55 = .ok (.goto 4, 3) := by decide +kernel
theorem dX10_beside_58 : decode M_X10_beside.2.1 58 = .ok (.iconst (-1), 1) := by decide +kernel
theorem dX10_beside_59 : decode M_X10_beside.2.1 59 = .ok (.ireturn, 1) := by decide +kernel
theorem dX10_beside_60 : decode M_X10_beside.2.1 60 = .ok (.iload_n 2, 1) := by decide +kernel
theorem dX10_beside_61 : decode M_X10_beside.2.1 61 = .ok (.iconst 2, 1) := by decide +kernel
theorem dX10_beside_62 : decode M_X10_beside.2.1 62 = .ok (.if_icmp .ne 16, 3) := by decide +kernel
theorem dX10_beside_65 : decode M_X10_beside.2.1 65 = .ok (.iload 4, 2) := by decide +kernel
theorem dX10_beside_67 : decode M_X10_beside.2.1 67 = .ok (.ifCond .le 9, 3) := by decide +kernel
theorem dX10_beside_70 : decode M_X10_beside.2.1 70 = .ok (.iload_n 1, 1) := by decide +kernel
theorem dX10_beside_71 : decode M_X10_beside.2.1 71 = .ok (.iconst 1, 1) := by decide +kernel
theorem dX10_beside_72 : decode M_X10_beside.2.1 72 = .ok (.isub, 1) := by decide +kernel
theorem dX10_beside_73 : decode M_X10_beside.2.1 73 = .ok (.goto 4, 3) := by decide +kernel
theorem dX10_beside_76 : decode M_X10_beside.2.1 76 = .ok (.iconst (-1), 1) := by decide +kernel
theorem dX10_beside_77 : decode M_X10_beside.2.1 77 = .ok (.ireturn, 1) := by decide +kernel
theorem dX10_beside_78 : decode M_X10_beside.2.1 78 = .ok (.iload 4, 2) := by decide +kernel
theorem dX10_beside_80 : decode M_X10_beside.2.1 80 = .ok (.aload_n 0, 1) := by decide +kernel
theorem dX10_beside_81 : decode M_X10_beside.2.1 81 = .ok (.getfield 139, 3) := by decide +kernel
theorem dX10_beside_84 : decode M_X10_beside.2.1 84 = .ok (.iconst 1, 1) := by decide +kernel
theorem dX10_beside_85 : decode M_X10_beside.2.1 85 = .ok (.isub, 1) := by decide +kernel
theorem dX10_beside_86 : decode M_X10_beside.2.1 86 = .ok (.if_icmp .ge 9, 3) := by decide +kernel
theorem dX10_beside_89 : decode M_X10_beside.2.1 89 = .ok (.iload_n 1, 1) := by decide +kernel
theorem dX10_beside_90 : decode M_X10_beside.2.1 90 = .ok (.iconst 1, 1) := by decide +kernel
theorem dX10_beside_91 : decode M_X10_beside.2.1 91 = .ok (.iadd, 1) := by decide +kernel
theorem dX10_beside_92 : decode M_X10_beside.2.1 92 = .ok (.goto 4, 3) := by decide +kernel
theorem dX10_beside_95 : decode M_X10_beside.2.1 95 = .ok (.iconst (-1), 1) := by decide +kernel
theorem dX10_beside_96 : decode M_X10_beside.2.1 96 = .ok (.ireturn, 1) := by decide +kernel
theorem w_X10_beside {X : ZX} {d n : Nat} {P : Int → ZSto → Prop} {x1 : Int} {x2 : Int} {σ : ZSto} (hn : 104 ≤ n)  (hx1 : R32 x1) (hx2 : R32 x2)
    (h : (0 < gI σ 73 13 ∧ gI σ 73 13 < 2147483648) ∧ (0 ≤ x1 ∧ x1 < 2147483648) ∧ (∀ y5 : Int, y5 = x1 / (gI σ 73 13) → (∀ y8 : Int, y8 = x1 % (gI σ 73 13) → (¬ x2 = 0 → (¬ x2 = 1 → (¬ x2 = 2 → R32 y8 ∧ R32 ((gI σ 73 13) - 1) ∧ ((gI σ 73 13) - 1 ≤ y8 → P ((-1)) σ) ∧ (¬ ((gI σ 73 13) - 1 ≤ y8) → R32 (x1 + 1) ∧ P (x1 + 1) σ)) ∧ (x2 = 2 → R32 y8 ∧ (y8 ≤ 0 → P ((-1)) σ) ∧ (¬ (y8 ≤ 0) → R32 (x1 - 1) ∧ P (x1 - 1) σ))) ∧ (x2 = 1 → R32 y5 ∧ R32 ((gI σ 73 13) - 1) ∧ ((gI σ 73 13) - 1 ≤ y5 → P ((-1)) σ) ∧ (¬ ((gI σ 73 13) - 1 ≤ y5) → R32 (x1 + (gI σ 73 13)) ∧ P (x1 + (gI σ 73 13)) σ))) ∧ (x2 = 0 → R32 y5 ∧ (y5 ≤ 0 → P ((-1)) σ) ∧ (¬ (y5 ≤ 0) → R32 (x1 - (gI σ 73 13)) ∧ P (x1 - (gI σ 73 13)) σ))))) :
    ZkI X M_X10_beside (d + 1) n [.ref (zB X + 73), iV x1, iV x2] σ P := by
  refine zk_of (ls := [some (.ref (zB X + 73)), some (iV x1), some (iV x2), none, none]) pl_RX10 (Nat.le_of_ble_eq_true rfl) rfl (fun k0 => ?_)
  unfold Zn
  refine r_iload_n dX10_beside_0 rfl ?_
  refine r_aload_n dX10_beside_1 rfl ?_
  refine r_getI dX10_beside_2 kf_RX10_139 (zlt hn rfl) sh_73 (Or.inl rfl) rfl ?_
  obtain ⟨h1, h2⟩ := h
  obtain ⟨h3, h4⟩ := h2
  refine r_idiv dX10_beside_5 h3.1 h3.2 h1.1 h1.2 ?_
  refine r_name (fun y5 e6 => ?_)
  have h7 := h4 y5 e6
  refine r_istore_n dX10_beside_6 rfl rfl ?_
  refine r_iload_n dX10_beside_7 rfl ?_
  refine r_aload_n dX10_beside_8 rfl ?_
  refine r_getI dX10_beside_9 kf_RX10_139 (zlt hn rfl) sh_73 (Or.inl rfl) rfl ?_
  refine r_irem dX10_beside_12 h3.1 h3.2 h1.1 h1.2 ?_
  refine r_name (fun y8 e9 => ?_)
  have h10 := h7 y8 e9
  refine r_istore dX10_beside_13 rfl rfl ?_
  refine r_iload_n dX10_beside_15 rfl ?_
  refine r_if_ne (t := 34) dX10_beside_16 rfl hx2  (fun c11 => ?_) (fun c12 => ?_)
  · have h13 := h10.1 c11
    refine r_iload_n dX10_beside_34 rfl ?_
    refine r_iconst dX10_beside_35 ?_
    refine r_icmp_ne (t := 60) dX10_beside_36 rfl hx2 (r32c rfl) (fun c14 => ?_) (fun c15 => ?_)
    · have h16 := h13.1 c14
      refine r_iload_n dX10_beside_60 rfl ?_
      refine r_iconst dX10_beside_61 ?_
      refine r_icmp_ne (t := 78) dX10_beside_62 rfl hx2 (r32c rfl) (fun c17 => ?_) (fun c18 => ?_)
      · have h19 := h16.1 c17
        refine r_iload dX10_beside_78 rfl ?_
        refine r_aload_n dX10_beside_80 rfl ?_
        refine r_getI dX10_beside_81 kf_RX10_139 (zlt hn rfl) sh_73 (Or.inl rfl) rfl ?_
        refine r_iconst dX10_beside_84 ?_
        refine r_isub dX10_beside_85 ?_
        obtain ⟨h20, h21⟩ := h19
        obtain ⟨h22, h23⟩ := h21
        refine r_icmp_ge (t := 95) dX10_beside_86 rfl h20 h22 (fun c24 => ?_) (fun c25 => ?_)
        · have h26 := h23.1 c24
          refine r_iconst dX10_beside_95 ?_
          exact r_ireturn dX10_beside_96 rfl ⟨k0, _, rfl, (r32c rfl), h26⟩
        · have h27 := h23.2 c25
          refine r_iload_n dX10_beside_89 rfl ?_
          refine r_iconst dX10_beside_90 ?_
          refine r_iadd dX10_beside_91 ?_
          refine r_goto (t := 96) dX10_beside_92 rfl ?_
          obtain ⟨h28, h29⟩ := h27
          exact r_ireturn dX10_beside_96 rfl ⟨k0, _, rfl, h28, h29⟩
      · have h30 := h16.2 c18
        refine r_iload dX10_beside_65 rfl ?_
        obtain ⟨h31, h32⟩ := h30
        refine r_if_le (t := 76) dX10_beside_67 rfl h31  (fun c33 => ?_) (fun c34 => ?_)
        · have h35 := h32.1 c33
          refine r_iconst dX10_beside_76 ?_
          exact r_ireturn dX10_beside_77 rfl ⟨k0, _, rfl, (r32c rfl), h35⟩
        · have h36 := h32.2 c34
          refine r_iload_n dX10_beside_70 rfl ?_
          refine r_iconst dX10_beside_71 ?_
          refine r_isub dX10_beside_72 ?_
          refine r_goto (t := 77) dX10_beside_73 rfl ?_
          obtain ⟨h37, h38⟩ := h36
          exact r_ireturn dX10_beside_77 rfl ⟨k0, _, rfl, h37, h38⟩
    · have h39 := h13.2 c15
      refine r_iload_n dX10_beside_39 rfl ?_
      refine r_aload_n dX10_beside_40 rfl ?_
      refine r_getI dX10_beside_41 kf_RX10_139 (zlt hn rfl) sh_73 (Or.inl rfl) rfl ?_
      refine r_iconst dX10_beside_44 ?_
      refine r_isub dX10_beside_45 ?_
      obtain ⟨h40, h41⟩ := h39
      obtain ⟨h42, h43⟩ := h41
      refine r_icmp_ge (t := 58) dX10_beside_46 rfl h40 h42 (fun c44 => ?_) (fun c45 => ?_)
      · have h46 := h43.1 c44
        refine r_iconst dX10_beside_58 ?_
        exact r_ireturn dX10_beside_59 rfl ⟨k0, _, rfl, (r32c rfl), h46⟩
      · have h47 := h43.2 c45
        refine r_iload_n dX10_beside_49 rfl ?_
        refine r_aload_n dX10_beside_50 rfl ?_
        refine r_getI dX10_beside_51 kf_RX10_139 (zlt hn rfl) sh_73 (Or.inl rfl) rfl ?_
        refine r_iadd dX10_beside_54 ?_
        refine r_goto (t := 59) dX10_beside_55 rfl ?_
        obtain ⟨h48, h49⟩ := h47
        exact r_ireturn dX10_beside_59 rfl ⟨k0, _, rfl, h48, h49⟩
  · have h50 := h10.2 c12
    refine r_iload_n dX10_beside_19 rfl ?_
    obtain ⟨h51, h52⟩ := h50
    refine r_if_le (t := 32) dX10_beside_20 rfl h51  (fun c53 => ?_) (fun c54 => ?_)
    · have h55 := h52.1 c53
      refine r_iconst dX10_beside_32 ?_
      exact r_ireturn dX10_beside_33 rfl ⟨k0, _, rfl, (r32c rfl), h55⟩
    · have h56 := h52.2 c54
      refine r_iload_n dX10_beside_23 rfl ?_
      refine r_aload_n dX10_beside_24 rfl ?_
      refine r_getI dX10_beside_25 kf_RX10_139 (zlt hn rfl) sh_73 (Or.inl rfl) rfl ?_
      refine r_isub dX10_beside_28 ?_
      refine r_goto (t := 33) dX10_beside_29 rfl ?_
      obtain ⟨h57, h58⟩ := h56
      exact r_ireturn dX10_beside_33 rfl ⟨k0, _, rfl, h57, h58⟩
/-! StoneRoomModel.flood -/
theorem dX10_flood_0 : decode M_X10_flood.2.1 0 = .ok (.iconst 0, 1) := by decide +kernel
theorem dX10_flood_1 : decode M_X10_flood.2.1 1 = .ok (.istore_n 2, 1) := by decide +kernel
theorem dX10_flood_2 : decode M_X10_flood.2.1 2 = .ok (.iload_n 2, 1) := by decide +kernel
theorem dX10_flood_3 : decode M_X10_flood.2.1 3 = .ok (.bipush 81, 2) := by decide +kernel
theorem dX10_flood_5 : decode M_X10_flood.2.1 5 = .ok (.if_icmp .ge 23, 3) := by decide +kernel
theorem dX10_flood_8 : decode M_X10_flood.2.1 8 = .ok (.aload_n 0, 1) := by decide +kernel
theorem dX10_flood_9 : decode M_X10_flood.2.1 9 = .ok (.getfield 49, 3) := by decide +kernel
theorem dX10_flood_12 : decode M_X10_flood.2.1 12 = .ok (.iload_n 2, 1) := by decide +kernel
theorem dX10_flood_13 : decode M_X10_flood.2.1 13 = .ok (.iconst 0, 1) := by decide +kernel
theorem dX10_flood_14 : decode M_X10_flood.2.1 14 = .ok (.bastore, 1) := by decide +kernel
theorem dX10_flood_15 : decode M_X10_flood.2.1 15 = .ok (.aload_n 0, 1) := by decide +kernel
theorem dX10_flood_16 : decode M_X10_flood.2.1 16 = .ok (.getfield 53, 3) := by decide +kernel
theorem dX10_flood_19 : decode M_X10_flood.2.1 19 = .ok (.iload_n 2, 1) := by decide +kernel
theorem dX10_flood_20 : decode M_X10_flood.2.1 20 = .ok (.iconst 0, 1) := by decide +kernel
theorem dX10_flood_21 : decode M_X10_flood.2.1 21 = .ok (.bastore, 1) := by decide +kernel
theorem dX10_flood_22 : decode M_X10_flood.2.1 22 = .ok (.iinc 2 1, 3) := by decide +kernel
theorem dX10_flood_25 : decode M_X10_flood.2.1 25 = .ok (.goto (-23), 3) := by decide +kernel
theorem dX10_flood_28 : decode M_X10_flood.2.1 28 = .ok (.aload_n 0, 1) := by decide +kernel
theorem dX10_flood_29 : decode M_X10_flood.2.1 29 = .ok (.getfield 46, 3) := by decide +kernel
theorem dX10_flood_32 : decode M_X10_flood.2.1 32 = .ok (.iload_n 1, 1) := by decide +kernel
theorem dX10_flood_33 : decode M_X10_flood.2.1 33 = .ok (.baload, 1) := by decide +kernel
theorem dX10_flood_34 : decode M_X10_flood.2.1 34 = .ok (.istore_n 2, 1) := by decide +kernel
theorem dX10_flood_35 : decode M_X10_flood.2.1 35 = .ok (.iconst 1, 1) := by decide +kernel
theorem dX10_flood_36 : decode M_X10_flood.2.1 36 = .ok (.istore_n 3, 1) := by decide +kernel
theorem dX10_flood_37 : decode M_X10_flood.2.1 37 = .ok (.iconst 0, 1) := by decide +kernel
theorem dX10_flood_38 : decode M_X10_flood.2.1 38 = .ok (.istore 4, 2) := by decide +kernel
theorem dX10_flood_40 : decode M_X10_flood.2.1 40 = .ok (.aload_n 0, 1) := by decide +kernel
theorem dX10_flood_41 : decode M_X10_flood.2.1 41 = .ok (.getfield 56, 3) := by decide +kernel
theorem dX10_flood_44 : decode M_X10_flood.2.1 44 = .ok (.iconst 0, 1) := by decide +kernel
theorem dX10_flood_45 : decode M_X10_flood.2.1 45 = .ok (.iload_n 1, 1) := by decide +kernel
theorem dX10_flood_46 : decode M_X10_flood.2.1 46 = .ok (.iastore, 1) := by decide +kernel
theorem dX10_flood_47 : decode M_X10_flood.2.1 47 = .ok (.aload_n 0, 1) := by decide +kernel
theorem dX10_flood_48 : decode M_X10_flood.2.1 48 = .ok (.getfield 49, 3) := by decide +kernel
theorem dX10_flood_51 : decode M_X10_flood.2.1 51 = .ok (.iload_n 1, 1) := by decide +kernel
theorem dX10_flood_52 : decode M_X10_flood.2.1 52 = .ok (.iconst 1, 1) := by decide +kernel
theorem dX10_flood_53 : decode M_X10_flood.2.1 53 = .ok (.bastore, 1) := by decide +kernel
theorem dX10_flood_54 : decode M_X10_flood.2.1 54 = .ok (.iload_n 3, 1) := by decide +kernel
theorem dX10_flood_55 : decode M_X10_flood.2.1 55 = .ok (.ifCond .le 124, 3) := by decide +kernel
theorem dX10_flood_58 : decode M_X10_flood.2.1 58 = .ok (.iinc 3 (-1), 3) := by decide +kernel
theorem dX10_flood_61 : decode M_X10_flood.2.1 61 = .ok (.aload_n 0, 1) := by decide +kernel
theorem dX10_flood_62 : decode M_X10_flood.2.1 62 = .ok (.getfield 56, 3) := by decide +kernel
theorem dX10_flood_65 : decode M_X10_flood.2.1 65 = .ok (.iload_n 3, 1) := by decide +kernel
theorem dX10_flood_66 : decode M_X10_flood.2.1 66 = .ok (.iaload, 1) := by decide +kernel
theorem dX10_flood_67 : decode M_X10_flood.2.1 67 = .ok (.istore 5, 2) := by decide +kernel
theorem dX10_flood_69 : decode M_X10_flood.2.1 69 = .ok (.iconst 0, 1) := by decide +kernel
theorem dX10_flood_70 : decode M_X10_flood.2.1 70 = .ok (.istore 6, 2) := by decide +kernel
theorem dX10_flood_72 : decode M_X10_flood.2.1 72 = .ok (.iload 6, 2) := by decide +kernel
theorem dX10_flood_74 : decode M_X10_flood.2.1 74 = .ok (.iconst 4, 1) := by decide +kernel
theorem dX10_flood_75 : decode M_X10_flood.2.1 75 = .ok (.if_icmp .ge 101, 3) := by decide +kernel
theorem dX10_flood_78 : decode M_X10_flood.2.1 78 = .ok (.aload_n 0, 1) := by decide +kernel
theorem dX10_flood_79 : decode M_X10_flood.2.1 79 = .ok (.iload 5, 2) := by decide +kernel
theorem dX10_flood_81 : decode M_X10_flood.2.1 81 = .ok (.iload 6, 2) := by decide +kernel
theorem dX10_flood_83 : decode M_X10_flood.2.1 83 = .ok (.invokevirtual 142, 3) := by decide +kernel
theorem dX10_flood_86 : decode M_X10_flood.2.1 86 = .ok (.istore 7, 2) := by decide +kernel
theorem dX10_flood_88 : decode M_X10_flood.2.1 88 = .ok (.iload 7, 2) := by decide +kernel
theorem dX10_flood_90 : decode M_X10_flood.2.1 90 = .ok (.ifCond .ge 6, 3) := by decide +kernel
theorem dX10_flood_93 : decode M_X10_flood.2.1 93 = .ok (.goto 77, 3) := by decide +kernel
theorem dX10_flood_96 : decode M_X10_flood.2.1 96 = .ok (.aload_n 0, 1) := by decide +kernel
theorem dX10_flood_97 : decode M_X10_flood.2.1 97 = .ok (.getfield 46, 3) := by decide +kernel
theorem dX10_flood_100 : decode M_X10_flood.2.1 100 = .ok (.iload 7, 2) := by decide +kernel
theorem dX10_flood_102 : decode M_X10_flood.2.1 102 = .ok (.baload, 1) := by decide +kernel
theorem dX10_flood_103 : decode M_X10_flood.2.1 103 = .ok (.ifCond .ne 27, 3) := by decide +kernel
theorem dX10_flood_106 : decode M_X10_flood.2.1 106 = .ok (.aload_n 0, 1) := by decide +kernel
theorem dX10_flood_107 : decode M_X10_flood.2.1 107 = .ok (.getfield 53, 3) := by decide +kernel
theorem dX10_flood_110 : decode M_X10_flood.2.1 110 = .ok (.iload 7, 2) := by decide +kernel
theorem dX10_flood_112 : decode M_X10_flood.2.1 112 = .ok (.baload, 1) := by decide +kernel
theorem dX10_flood_113 : decode M_X10_flood.2.1 113 = .ok (.ifCond .ne 17, 3) := by decide +kernel
theorem dX10_flood_116 : decode M_X10_flood.2.1 116 = .ok (.aload_n 0, 1) := by decide +kernel
theorem dX10_flood_117 : decode M_X10_flood.2.1 117 = .ok (.getfield 53, 3) := by decide +kernel
theorem dX10_flood_120 : decode M_X10_flood.2.1 120 = .ok (.iload 7, 2) := by decide +kernel
theorem dX10_flood_122 : decode M_X10_flood.2.1 122 = .ok (.iconst 1, 1) := by decide +kernel
theorem dX10_flood_123 : decode M_X10_flood.2.1 123 = .ok (.bastore, 1) := by decide +kernel
theorem dX10_flood_124 : decode M_X10_flood.2.1 124 = .ok (.iinc 4 1, 3) := by decide +kernel
theorem dX10_flood_127 : decode M_X10_flood.2.1 127 = .ok (.goto 43, 3) := by decide +kernel
theorem dX10_flood_130 : decode M_X10_flood.2.1 130 = .ok (.aload_n 0, 1) := by decide +kernel
theorem dX10_flood_131 : decode M_X10_flood.2.1 131 = .ok (.getfield 46, 3) := by decide +kernel
theorem dX10_flood_134 : decode M_X10_flood.2.1 134 = .ok (.iload 7, 2) := by decide +kernel
theorem dX10_flood_136 : decode M_X10_flood.2.1 136 = .ok (.baload, 1) := by decide +kernel
theorem dX10_flood_137 : decode M_X10_flood.2.1 137 = .ok (.iload_n 2, 1) := by decide +kernel
theorem dX10_flood_138 : decode M_X10_flood.2.1 138 = .ok (.if_icmp .ne 32, 3) := by decide +kernel
theorem dX10_flood_141 : decode M_X10_flood.2.1 141 = .ok (.aload_n 0, 1) := by decide +kernel
theorem dX10_flood_142 : decode M_X10_flood.2.1 142 = .ok (.getfield 49, 3) := by decide +kernel
theorem dX10_flood_145 : decode M_X10_flood.2.1 145 = .ok (.iload 7, 2) := by decide +kernel
theorem dX10_flood_147 : decode M_X10_flood.2.1 147 = .ok (.baload, 1) := by decide +kernel
theorem dX10_flood_148 : decode M_X10_flood.2.1 148 = .ok (.ifCond .ne 22, 3) := by decide +kernel
theorem dX10_flood_151 : decode M_X10_flood.2.1 151 = .ok (.aload_n 0, 1) := by decide +kernel
theorem dX10_flood_152 : decode M_X10_flood.2.1 152 = .ok (.getfield 49, 3) := by decide +kernel
theorem dX10_flood_155 : decode M_X10_flood.2.1 155 = .ok (.iload 7, 2) := by decide +kernel
theorem dX10_flood_157 : decode M_X10_flood.2.1 157 = .ok (.iconst 1, 1) := by decide +kernel
theorem dX10_flood_158 : decode M_X10_flood.2.1 158 = .ok (.bastore, 1) := by decide +kernel
theorem dX10_flood_159 : decode M_X10_flood.2.1 159 = .ok (.aload_n 0, 1) := by decide +kernel
theorem dX10_flood_160 : decode M_X10_flood.2.1 160 = .ok (.getfield 56, 3) := by decide +kernel
theorem dX10_flood_163 : decode M_X10_flood.2.1 163 = .ok (.iload_n 3, 1) := by decide +kernel
theorem dX10_flood_164 : decode M_X10_flood.2.1 164 = .ok (.iload 7, 2) := by decide +kernel
theorem dX10_flood_166 : decode M_X10_flood.2.1 166 = .ok (.iastore, 1) := by decide +kernel
theorem dX10_flood_167 : decode M_X10_flood.2.1 167 = .ok (.iinc 3 1, 3) := by decide +kernel
theorem dX10_flood_170 : decode M_X10_flood.2.1 170 = .ok (.iinc 6 1, 3) := by decide +kernel
theorem dX10_flood_173 : decode M_X10_flood.2.1 173 = .ok (.goto (-101), 3) := by decide +kernel
theorem dX10_flood_176 : decode M_X10_flood.2.1 176 = .ok (.goto (-122), 3) := by decide +kernel
theorem dX10_flood_179 : decode M_X10_flood.2.1 179 = .ok (.iload 4, 2) := by decide +kernel
theorem dX10_flood_181 : decode M_X10_flood.2.1 181 = .ok (.ireturn, 1) := by decide +kernel
def L_X10_flood_2 (X : ZX) (d n : Nat) (P : Option Value → ZSto → Prop) (x1 : Int) (x2 : Int) (σ : ZSto) : Prop := R32 x1 → R32 x2 → ZOk n σ → Zn X M_X10_flood d n P 2 [some (.ref (zB X + 73)), some (iV x1), some (iV x2), none, none, none, none, none] [] σ
def L_X10_flood_54 (X : ZX) (d n : Nat) (P : Option Value → ZSto → Prop) (x2 : Int) (x3 : Int) (x4 : Int) (σ : ZSto) : Prop := R32 x2 → R32 x3 → R32 x4 → ZOk n σ → Zn X M_X10_flood d n P 54 [some (.ref (zB X + 73)), none, some (iV x2), some (iV x3), some (iV x4), none, none, none] [] σ
def L_X10_flood_72 (X : ZX) (d n : Nat) (P : Option Value → ZSto → Prop) (x2 : Int) (x3 : Int) (x4 : Int) (x5 : Int) (x6 : Int) (σ : ZSto) : Prop := R32 x2 → R32 x3 → R32 x4 → R32 x5 → R32 x6 → ZOk n σ → Zn X M_X10_flood d n P 72 [some (.ref (zB X + 73)), none, some (iV x2), some (iV x3), some (iV x4), some (iV x5), some (iV x6), none] [] σ
def L_X10_flood_130 (X : ZX) (d n : Nat) (P : Option Value → ZSto → Prop) (x2 : Int) (x3 : Int) (x4 : Int) (x5 : Int) (x6 : Int) (x7 : Int) (σ : ZSto) : Prop := R32 x2 → R32 x3 → R32 x4 → R32 x5 → R32 x6 → R32 x7 → ZOk n σ → Zn X M_X10_flood d n P 130 [some (.ref (zB X + 73)), none, some (iV x2), some (iV x3), some (iV x4), some (iV x5), some (iV x6), some (iV x7)] [] σ
theorem w_X10_flood {X : ZX} {d n : Nat} {P : Int → ZSto → Prop} {x1 : Int} {σ : ZSto} (hn : 104 ≤ n)  (hx1 : R32 x1)
    (h : L_X10_flood_2 X d n (zpI P) x1 0 σ) :
    ZkI X M_X10_flood (d + 1) n [.ref (zB X + 73), iV x1] σ P := by
  refine zk_of (ls := [some (.ref (zB X + 73)), some (iV x1), none, none, none, none, none, none]) pl_RX10 (Nat.le_of_ble_eq_true rfl) rfl (fun k0 => ?_)
  unfold Zn
  refine r_iconst dX10_flood_0 ?_
  refine r_istore_n dX10_flood_1 rfl rfl ?_
  exact r_mask [true, true, true, false, false, false, false, false] rfl (h hx1 (r32c rfl) k0)
theorem b_X10_flood_2 {X : ZX} {d n : Nat} {P : Int → ZSto → Prop} {x1 : Int} {x2 : Int} {σ : ZSto} (hn : 104 ≤ n) 
    (h : (81 ≤ x2 → (0 ≤ x1 ∧ x1 < 81) ∧ (∀ y6 : Int, y6 = gI σ 84 x1.toNat → L_X10_flood_54 X d n (zpI P) y6 1 0 (sI (sI σ 87 0 x1) 85 x1.toNat 1))) ∧ (¬ (81 ≤ x2) → (0 ≤ x2 ∧ x2 < 81) ∧ R32 (x2 + 1) ∧ L_X10_flood_2 X d n (zpI P) x1 (x2 + 1) (sI (sI σ 85 x2.toNat 0) 86 x2.toNat 0))) :
    L_X10_flood_2 X d n (zpI P) x1 x2 σ := by
  intro hx1 hx2 k0
  unfold Zn
  refine r_iload_n dX10_flood_2 rfl ?_
  refine r_bipush dX10_flood_3 rfl ?_
  refine r_icmp_ge (t := 28) dX10_flood_5 rfl hx2 (r32c rfl) (fun c1 => ?_) (fun c2 => ?_)
  · have h3 := h.1 c1
    refine r_aload_n dX10_flood_28 rfl ?_
    refine r_getP (a := 84) dX10_flood_29 kf_RX10_46 (zlt hn rfl) sh_73 rfl (k0.1 _ _ _ (zlt hn rfl) p_73_14) ?_
    refine r_iload_n dX10_flood_32 rfl ?_
    obtain ⟨h4, h5⟩ := h3
    refine r_baloadE dX10_flood_33 (zlt hn rfl) sh_84 h4.1 h4.2 rfl ?_
    refine r_name (fun y6 e7 => ?_)
    have h8 := h5 y6 e7
    refine r_istore_n dX10_flood_34 rfl rfl ?_
    refine r_iconst dX10_flood_35 ?_
    refine r_istore_n dX10_flood_36 rfl rfl ?_
    refine r_iconst dX10_flood_37 ?_
    refine r_istore dX10_flood_38 rfl rfl ?_
    refine r_aload_n dX10_flood_40 rfl ?_
    refine r_getP (a := 87) dX10_flood_41 kf_RX10_56 (zlt hn rfl) sh_73 rfl (k0.1 _ _ _ (zlt hn rfl) p_73_17) ?_
    refine r_iconst dX10_flood_44 ?_
    refine r_iload_n dX10_flood_45 rfl ?_
    refine r_iastore dX10_flood_46 (zlt hn rfl) sh_87 (by decide) (by decide) ?_
    have k9 := zok_i (i := 0) (x := x1) k0 sh_87 hx1
    refine r_aload_n dX10_flood_47 rfl ?_
    refine r_getP (a := 85) dX10_flood_48 kf_RX10_49 (zlt hn rfl) sh_73 rfl (k9.1 _ _ _ (zlt hn rfl) p_73_15) ?_
    refine r_iload_n dX10_flood_51 rfl ?_
    refine r_iconst dX10_flood_52 ?_
    refine r_zastore dX10_flood_53 (zlt hn rfl) sh_85 h4.1 h4.2 (Or.inr rfl) ?_
    have k10 := zok_z (i := x1.toNat) (x := 1) k9 sh_85 (Or.inr rfl)
    exact r_mask [true, false, true, true, true, false, false, false] rfl (h8 (by rw [e7]; exact (k0.2.1 _ _)) (r32c rfl) (r32c rfl) k10)
  · have h11 := h.2 c2
    refine r_aload_n dX10_flood_8 rfl ?_
    refine r_getP (a := 85) dX10_flood_9 kf_RX10_49 (zlt hn rfl) sh_73 rfl (k0.1 _ _ _ (zlt hn rfl) p_73_15) ?_
    refine r_iload_n dX10_flood_12 rfl ?_
    refine r_iconst dX10_flood_13 ?_
    obtain ⟨h12, h13⟩ := h11
    refine r_zastore dX10_flood_14 (zlt hn rfl) sh_85 h12.1 h12.2 (Or.inl rfl) ?_
    have k14 := zok_z (i := x2.toNat) (x := 0) k0 sh_85 (Or.inl rfl)
    refine r_aload_n dX10_flood_15 rfl ?_
    refine r_getP (a := 86) dX10_flood_16 kf_RX10_53 (zlt hn rfl) sh_73 rfl (k14.1 _ _ _ (zlt hn rfl) p_73_16) ?_
    refine r_iload_n dX10_flood_19 rfl ?_
    refine r_iconst dX10_flood_20 ?_
    refine r_zastore dX10_flood_21 (zlt hn rfl) sh_86 h12.1 h12.2 (Or.inl rfl) ?_
    have k15 := zok_z (i := x2.toNat) (x := 0) k14 sh_86 (Or.inl rfl)
    refine r_iinc dX10_flood_22 rfl rfl rfl ?_
    refine r_goto (t := 2) dX10_flood_25 rfl ?_
    obtain ⟨h16, h17⟩ := h13
    exact r_mask [true, true, true, false, false, false, false, false] rfl (h17 hx1 h16 k15)
theorem b_X10_flood_54 {X : ZX} {d n : Nat} {P : Int → ZSto → Prop} {x2 : Int} {x3 : Int} {x4 : Int} {σ : ZSto} (hn : 104 ≤ n) 
    (h : (x3 ≤ 0 → P x4 σ) ∧ (¬ (x3 ≤ 0) → (0 ≤ x3 + (-1) ∧ x3 + (-1) < 81) ∧ (∀ y7 : Int, y7 = gI σ 87 ((x3 + (-1)).toNat) → R32 (x3 + (-1)) ∧ L_X10_flood_72 X d n (zpI P) x2 (x3 + (-1)) x4 y7 0 σ))) :
    L_X10_flood_54 X d n (zpI P) x2 x3 x4 σ := by
  intro hx2 hx3 hx4 k0
  unfold Zn
  refine r_iload_n dX10_flood_54 rfl ?_
  refine r_if_le (t := 179) dX10_flood_55 rfl hx3  (fun c1 => ?_) (fun c2 => ?_)
  · have h3 := h.1 c1
    refine r_iload dX10_flood_179 rfl ?_
    exact r_ireturn dX10_flood_181 rfl ⟨k0, _, rfl, hx4, h3⟩
  · have h4 := h.2 c2
    refine r_iinc dX10_flood_58 rfl rfl rfl ?_
    refine r_aload_n dX10_flood_61 rfl ?_
    refine r_getP (a := 87) dX10_flood_62 kf_RX10_56 (zlt hn rfl) sh_73 rfl (k0.1 _ _ _ (zlt hn rfl) p_73_17) ?_
    refine r_iload_n dX10_flood_65 rfl ?_
    obtain ⟨h5, h6⟩ := h4
    refine r_ialoadE dX10_flood_66 (zlt hn rfl) sh_87 h5.1 h5.2 rfl ?_
    refine r_name (fun y7 e8 => ?_)
    have h9 := h6 y7 e8
    refine r_istore dX10_flood_67 rfl rfl ?_
    refine r_iconst dX10_flood_69 ?_
    refine r_istore dX10_flood_70 rfl rfl ?_
    obtain ⟨h10, h11⟩ := h9
    exact r_mask [true, false, true, true, true, true, true, false] rfl (h11 hx2 h10 hx4 (by rw [e8]; exact (k0.2.1 _ _)) (r32c rfl) k0)
theorem b_X10_flood_72 {X : ZX} {d n : Nat} {P : Int → ZSto → Prop} {x2 : Int} {x3 : Int} {x4 : Int} {x5 : Int} {x6 : Int} {σ : ZSto} (hn : 104 ≤ n) 
    (h : (4 ≤ x6 → L_X10_flood_54 X d n (zpI P) x2 x3 x4 σ) ∧ (¬ (4 ≤ x6) → ZkI X M_X10_beside d n [.ref (zB X + 73), iV x5, iV x6] σ (fun v5 σ6 => (0 ≤ v5 → (0 ≤ v5 ∧ v5 < 81) ∧ (¬ gI σ6 84 v5.toNat = 0 → L_X10_flood_130 X d n (zpI P) x2 x3 x4 x5 x6 v5 σ6) ∧ (gI σ6 84 v5.toNat = 0 → (¬ gI σ6 86 v5.toNat = 0 → L_X10_flood_130 X d n (zpI P) x2 x3 x4 x5 x6 v5 σ6) ∧ (gI σ6 86 v5.toNat = 0 → R32 (x4 + 1) ∧ R32 (x6 + 1) ∧ L_X10_flood_72 X d n (zpI P) x2 x3 (x4 + 1) x5 (x6 + 1) (sI σ6 86 v5.toNat 1)))) ∧ (¬ (0 ≤ v5) → R32 (x6 + 1) ∧ L_X10_flood_72 X d n (zpI P) x2 x3 x4 x5 (x6 + 1) σ6)))) :
    L_X10_flood_72 X d n (zpI P) x2 x3 x4 x5 x6 σ := by
  intro hx2 hx3 hx4 hx5 hx6 k0
  unfold Zn
  refine r_iload dX10_flood_72 rfl ?_
  refine r_iconst dX10_flood_74 ?_
  refine r_icmp_ge (t := 176) dX10_flood_75 rfl hx6 (r32c rfl) (fun c1 => ?_) (fun c2 => ?_)
  · have h3 := h.1 c1
    refine r_goto (t := 54) dX10_flood_176 rfl ?_
    exact r_mask [true, false, true, true, true, false, false, false] rfl (h3 hx2 hx3 hx4 k0)
  · have h4 := h.2 c2
    refine r_aload_n dX10_flood_78 rfl ?_
    refine r_iload dX10_flood_79 rfl ?_
    refine r_iload dX10_flood_81 rfl ?_
    refine n_callV (N := M_X10_beside) (As := [iV x5, iV x6]) (st := []) dX10_flood_83 mk_X10_beside km_RX10_142 kd_X10_beside rfl (zlt hn rfl) sh_73 (q := (RX10, TX10, 52)) rfl rfl (zFits_rm d n n n (Nat.le_refl n)) (Nat.le_of_ble_eq_true rfl) rfl k0 h4 ?_
    rintro _ σ6 k7 ⟨v5, rfl, h8, h9⟩
    change Zm _ _ _ _ _ _ 86 _ [iV v5] _
    refine r_istore dX10_flood_86 rfl rfl ?_
    refine r_iload dX10_flood_88 rfl ?_
    refine r_if_ge (t := 96) dX10_flood_90 rfl h8  (fun c10 => ?_) (fun c11 => ?_)
    · have h12 := h9.1 c10
      refine r_aload_n dX10_flood_96 rfl ?_
      refine r_getP (a := 84) dX10_flood_97 kf_RX10_46 (zlt hn rfl) sh_73 rfl (k7.1 _ _ _ (zlt hn rfl) p_73_14) ?_
      refine r_iload dX10_flood_100 rfl ?_
      obtain ⟨h13, h14⟩ := h12
      refine r_baloadE dX10_flood_102 (zlt hn rfl) sh_84 h13.1 h13.2 rfl ?_
      refine r_if_ne (t := 130) dX10_flood_103 rfl (k7.2.1 _ _)  (fun c15 => ?_) (fun c16 => ?_)
      · have h17 := h14.1 c15
        exact r_mask [true, false, true, true, true, true, true, true] rfl (h17 hx2 hx3 hx4 hx5 hx6 h8 k7)
      · have h18 := h14.2 c16
        refine r_aload_n dX10_flood_106 rfl ?_
        refine r_getP (a := 86) dX10_flood_107 kf_RX10_53 (zlt hn rfl) sh_73 rfl (k7.1 _ _ _ (zlt hn rfl) p_73_16) ?_
        refine r_iload dX10_flood_110 rfl ?_
        refine r_zaloadE dX10_flood_112 (zlt hn rfl) sh_86 h13.1 h13.2 rfl ?_
        refine r_if_ne (t := 130) dX10_flood_113 rfl (k7.2.1 _ _)  (fun c19 => ?_) (fun c20 => ?_)
        · have h21 := h18.1 c19
          exact r_mask [true, false, true, true, true, true, true, true] rfl (h21 hx2 hx3 hx4 hx5 hx6 h8 k7)
        · have h22 := h18.2 c20
          refine r_aload_n dX10_flood_116 rfl ?_
          refine r_getP (a := 86) dX10_flood_117 kf_RX10_53 (zlt hn rfl) sh_73 rfl (k7.1 _ _ _ (zlt hn rfl) p_73_16) ?_
          refine r_iload dX10_flood_120 rfl ?_
          refine r_iconst dX10_flood_122 ?_
          refine r_zastore dX10_flood_123 (zlt hn rfl) sh_86 h13.1 h13.2 (Or.inr rfl) ?_
          have k23 := zok_z (i := v5.toNat) (x := 1) k7 sh_86 (Or.inr rfl)
          refine r_iinc dX10_flood_124 rfl rfl rfl ?_
          refine r_goto (t := 170) dX10_flood_127 rfl ?_
          refine r_iinc dX10_flood_170 rfl rfl rfl ?_
          refine r_goto (t := 72) dX10_flood_173 rfl ?_
          obtain ⟨h24, h25⟩ := h22
          obtain ⟨h26, h27⟩ := h25
          exact r_mask [true, false, true, true, true, true, true, false] rfl (h27 hx2 hx3 h24 hx5 h26 k23)
    · have h28 := h9.2 c11
      refine r_goto (t := 170) dX10_flood_93 rfl ?_
      refine r_iinc dX10_flood_170 rfl rfl rfl ?_
      refine r_goto (t := 72) dX10_flood_173 rfl ?_
      obtain ⟨h29, h30⟩ := h28
      exact r_mask [true, false, true, true, true, true, true, false] rfl (h30 hx2 hx3 hx4 hx5 h29 k7)
theorem b_X10_flood_130 {X : ZX} {d n : Nat} {P : Int → ZSto → Prop} {x2 : Int} {x3 : Int} {x4 : Int} {x5 : Int} {x6 : Int} {x7 : Int} {σ : ZSto} (hn : 104 ≤ n) 
    (h : (0 ≤ x7 ∧ x7 < 81) ∧ (¬ gI σ 84 x7.toNat = x2 → R32 (x6 + 1) ∧ L_X10_flood_72 X d n (zpI P) x2 x3 x4 x5 (x6 + 1) σ) ∧ (gI σ 84 x7.toNat = x2 → (¬ gI σ 85 x7.toNat = 0 → R32 (x6 + 1) ∧ L_X10_flood_72 X d n (zpI P) x2 x3 x4 x5 (x6 + 1) σ) ∧ (gI σ 85 x7.toNat = 0 → (0 ≤ x3 ∧ x3 < 81) ∧ R32 (x3 + 1) ∧ R32 (x6 + 1) ∧ L_X10_flood_72 X d n (zpI P) x2 (x3 + 1) x4 x5 (x6 + 1) (sI (sI σ 85 x7.toNat 1) 87 x3.toNat x7)))) :
    L_X10_flood_130 X d n (zpI P) x2 x3 x4 x5 x6 x7 σ := by
  intro hx2 hx3 hx4 hx5 hx6 hx7 k0
  unfold Zn
  refine r_aload_n dX10_flood_130 rfl ?_
  refine r_getP (a := 84) dX10_flood_131 kf_RX10_46 (zlt hn rfl) sh_73 rfl (k0.1 _ _ _ (zlt hn rfl) p_73_14) ?_
  refine r_iload dX10_flood_134 rfl ?_
  obtain ⟨h1, h2⟩ := h
  refine r_baloadE dX10_flood_136 (zlt hn rfl) sh_84 h1.1 h1.2 rfl ?_
  refine r_iload_n dX10_flood_137 rfl ?_
  refine r_icmp_ne (t := 170) dX10_flood_138 rfl (k0.2.1 _ _) hx2 (fun c3 => ?_) (fun c4 => ?_)
  · have h5 := h2.1 c3
    refine r_iinc dX10_flood_170 rfl rfl rfl ?_
    refine r_goto (t := 72) dX10_flood_173 rfl ?_
    obtain ⟨h6, h7⟩ := h5
    exact r_mask [true, false, true, true, true, true, true, false] rfl (h7 hx2 hx3 hx4 hx5 h6 k0)
  · have h8 := h2.2 c4
    refine r_aload_n dX10_flood_141 rfl ?_
    refine r_getP (a := 85) dX10_flood_142 kf_RX10_49 (zlt hn rfl) sh_73 rfl (k0.1 _ _ _ (zlt hn rfl) p_73_15) ?_
    refine r_iload dX10_flood_145 rfl ?_
    refine r_zaloadE dX10_flood_147 (zlt hn rfl) sh_85 h1.1 h1.2 rfl ?_
    refine r_if_ne (t := 170) dX10_flood_148 rfl (k0.2.1 _ _)  (fun c9 => ?_) (fun c10 => ?_)
    · have h11 := h8.1 c9
      refine r_iinc dX10_flood_170 rfl rfl rfl ?_
      refine r_goto (t := 72) dX10_flood_173 rfl ?_
      obtain ⟨h12, h13⟩ := h11
      exact r_mask [true, false, true, true, true, true, true, false] rfl (h13 hx2 hx3 hx4 hx5 h12 k0)
    · have h14 := h8.2 c10
      refine r_aload_n dX10_flood_151 rfl ?_
      refine r_getP (a := 85) dX10_flood_152 kf_RX10_49 (zlt hn rfl) sh_73 rfl (k0.1 _ _ _ (zlt hn rfl) p_73_15) ?_
      refine r_iload dX10_flood_155 rfl ?_
      refine r_iconst dX10_flood_157 ?_
      refine r_zastore dX10_flood_158 (zlt hn rfl) sh_85 h1.1 h1.2 (Or.inr rfl) ?_
      have k15 := zok_z (i := x7.toNat) (x := 1) k0 sh_85 (Or.inr rfl)
      refine r_aload_n dX10_flood_159 rfl ?_
      refine r_getP (a := 87) dX10_flood_160 kf_RX10_56 (zlt hn rfl) sh_73 rfl (k15.1 _ _ _ (zlt hn rfl) p_73_17) ?_
      refine r_iload_n dX10_flood_163 rfl ?_
      refine r_iload dX10_flood_164 rfl ?_
      obtain ⟨h16, h17⟩ := h14
      refine r_iastore dX10_flood_166 (zlt hn rfl) sh_87 h16.1 h16.2 ?_
      have k18 := zok_i (i := x3.toNat) (x := x7) k15 sh_87 hx7
      refine r_iinc dX10_flood_167 rfl rfl rfl ?_
      refine r_iinc dX10_flood_170 rfl rfl rfl ?_
      refine r_goto (t := 72) dX10_flood_173 rfl ?_
      obtain ⟨h19, h20⟩ := h17
      obtain ⟨h21, h22⟩ := h20
      exact r_mask [true, false, true, true, true, true, true, false] rfl (h22 hx2 h19 hx4 hx5 h21 k18)
/-! StoneRoomModel.takes -/
theorem dX10_takes_0 : decode M_X10_takes.2.1 0 = .ok (.iconst 0, 1) := by decide +kernel
theorem dX10_takes_1 : decode M_X10_takes.2.1 1 = .ok (.istore_n 1, 1) := by decide +kernel
theorem dX10_takes_2 : decode M_X10_takes.2.1 2 = .ok (.iconst 0, 1) := by decide +kernel
theorem dX10_takes_3 : decode M_X10_takes.2.1 3 = .ok (.istore_n 2, 1) := by decide +kernel
theorem dX10_takes_4 : decode M_X10_takes.2.1 4 = .ok (.iload_n 2, 1) := by decide +kernel
theorem dX10_takes_5 : decode M_X10_takes.2.1 5 = .ok (.bipush 81, 2) := by decide +kernel
theorem dX10_takes_7 : decode M_X10_takes.2.1 7 = .ok (.if_icmp .ge 31, 3) := by decide +kernel
theorem dX10_takes_10 : decode M_X10_takes.2.1 10 = .ok (.aload_n 0, 1) := by decide +kernel
theorem dX10_takes_11 : decode M_X10_takes.2.1 11 = .ok (.getfield 49, 3) := by decide +kernel
theorem dX10_takes_14 : decode M_X10_takes.2.1 14 = .ok (.iload_n 2, 1) := by decide +kernel
theorem dX10_takes_15 : decode M_X10_takes.2.1 15 = .ok (.baload, 1) := by decide +kernel
theorem dX10_takes_16 : decode M_X10_takes.2.1 16 = .ok (.ifCond .ne 6, 3) := by decide +kernel
theorem dX10_takes_19 : decode M_X10_takes.2.1 19 = .ok (.goto 13, 3) := by decide +kernel
theorem dX10_takes_22 : decode M_X10_takes.2.1 22 = .ok (.aload_n 0, 1) := by decide +kernel
theorem dX10_takes_23 : decode M_X10_takes.2.1 23 = .ok (.getfield 46, 3) := by decide +kernel
theorem dX10_takes_26 : decode M_X10_takes.2.1 26 = .ok (.iload_n 2, 1) := by decide +kernel
theorem dX10_takes_27 : decode M_X10_takes.2.1 27 = .ok (.iconst 0, 1) := by decide +kernel
theorem dX10_takes_28 : decode M_X10_takes.2.1 28 = .ok (.bastore, 1) := by decide +kernel
theorem dX10_takes_29 : decode M_X10_takes.2.1 29 = .ok (.iinc 1 1, 3) := by decide +kernel
theorem dX10_takes_32 : decode M_X10_takes.2.1 32 = .ok (.iinc 2 1, 3) := by decide +kernel
theorem dX10_takes_35 : decode M_X10_takes.2.1 35 = .ok (.goto (-31), 3) := by decide +kernel
theorem dX10_takes_38 : decode M_X10_takes.2.1 38 = .ok (.iload_n 1, 1) := by decide +kernel
theorem dX10_takes_39 : decode M_X10_takes.2.1 39 = .ok (.ireturn, 1) := by decide +kernel
def L_X10_takes_4 (X : ZX) (d n : Nat) (P : Option Value → ZSto → Prop) (x1 : Int) (x2 : Int) (σ : ZSto) : Prop := R32 x1 → R32 x2 → ZOk n σ → Zn X M_X10_takes d n P 4 [some (.ref (zB X + 73)), some (iV x1), some (iV x2)] [] σ
theorem w_X10_takes {X : ZX} {d n : Nat} {P : Int → ZSto → Prop}  {σ : ZSto} (hn : 104 ≤ n)  
    (h : L_X10_takes_4 X d n (zpI P) 0 0 σ) :
    ZkI X M_X10_takes (d + 1) n [.ref (zB X + 73)] σ P := by
  refine zk_of (ls := [some (.ref (zB X + 73)), none, none]) pl_RX10 (Nat.le_of_ble_eq_true rfl) rfl (fun k0 => ?_)
  unfold Zn
  refine r_iconst dX10_takes_0 ?_
  refine r_istore_n dX10_takes_1 rfl rfl ?_
  refine r_iconst dX10_takes_2 ?_
  refine r_istore_n dX10_takes_3 rfl rfl ?_
  exact r_mask [true, true, true] rfl (h (r32c rfl) (r32c rfl) k0)
theorem b_X10_takes_4 {X : ZX} {d n : Nat} {P : Int → ZSto → Prop} {x1 : Int} {x2 : Int} {σ : ZSto} (hn : 104 ≤ n) 
    (h : (81 ≤ x2 → P x1 σ) ∧ (¬ (81 ≤ x2) → (0 ≤ x2 ∧ x2 < 81) ∧ (¬ gI σ 85 x2.toNat = 0 → R32 (x1 + 1) ∧ R32 (x2 + 1) ∧ L_X10_takes_4 X d n (zpI P) (x1 + 1) (x2 + 1) (sI σ 84 x2.toNat 0)) ∧ (gI σ 85 x2.toNat = 0 → R32 (x2 + 1) ∧ L_X10_takes_4 X d n (zpI P) x1 (x2 + 1) σ))) :
    L_X10_takes_4 X d n (zpI P) x1 x2 σ := by
  intro hx1 hx2 k0
  unfold Zn
  refine r_iload_n dX10_takes_4 rfl ?_
  refine r_bipush dX10_takes_5 rfl ?_
  refine r_icmp_ge (t := 38) dX10_takes_7 rfl hx2 (r32c rfl) (fun c1 => ?_) (fun c2 => ?_)
  · have h3 := h.1 c1
    refine r_iload_n dX10_takes_38 rfl ?_
    exact r_ireturn dX10_takes_39 rfl ⟨k0, _, rfl, hx1, h3⟩
  · have h4 := h.2 c2
    refine r_aload_n dX10_takes_10 rfl ?_
    refine r_getP (a := 85) dX10_takes_11 kf_RX10_49 (zlt hn rfl) sh_73 rfl (k0.1 _ _ _ (zlt hn rfl) p_73_15) ?_
    refine r_iload_n dX10_takes_14 rfl ?_
    obtain ⟨h5, h6⟩ := h4
    refine r_zaloadE dX10_takes_15 (zlt hn rfl) sh_85 h5.1 h5.2 rfl ?_
    refine r_if_ne (t := 22) dX10_takes_16 rfl (k0.2.1 _ _)  (fun c7 => ?_) (fun c8 => ?_)
    · have h9 := h6.1 c7
      refine r_aload_n dX10_takes_22 rfl ?_
      refine r_getP (a := 84) dX10_takes_23 kf_RX10_46 (zlt hn rfl) sh_73 rfl (k0.1 _ _ _ (zlt hn rfl) p_73_14) ?_
      refine r_iload_n dX10_takes_26 rfl ?_
      refine r_iconst dX10_takes_27 ?_
      refine r_bastore dX10_takes_28 (zlt hn rfl) sh_84 h5.1 h5.2 (by decide) (by decide) ?_
      have k10 := zok_b (i := x2.toNat) (x := 0) k0 sh_84 (by decide) (by decide)
      refine r_iinc dX10_takes_29 rfl rfl rfl ?_
      refine r_iinc dX10_takes_32 rfl rfl rfl ?_
      refine r_goto (t := 4) dX10_takes_35 rfl ?_
      obtain ⟨h11, h12⟩ := h9
      obtain ⟨h13, h14⟩ := h12
      exact r_mask [true, true, true] rfl (h14 h11 h13 k10)
    · have h15 := h6.2 c8
      refine r_goto (t := 32) dX10_takes_19 rfl ?_
      refine r_iinc dX10_takes_32 rfl rfl rfl ?_
      refine r_goto (t := 4) dX10_takes_35 rfl ?_
      obtain ⟨h16, h17⟩ := h15
      exact r_mask [true, true, true] rfl (h17 hx1 h16 k0)
/-! StoneRoomModel.put -/
theorem dX10_put_0 : decode M_X10_put.2.1 0 = .ok (.aload_n 0, 1) := by decide +kernel
theorem dX10_put_1 : decode M_X10_put.2.1 1 = .ok (.getfield 46, 3) := by decide +kernel
theorem dX10_put_4 : decode M_X10_put.2.1 4 = .ok (.iload_n 1, 1) := by decide +kernel
theorem dX10_put_5 : decode M_X10_put.2.1 5 = .ok (.iload_n 2, 1) := by decide +kernel
theorem dX10_put_6 : decode M_X10_put.2.1 6 = .ok (.i2b, 1) := by decide +kernel
theorem dX10_put_7 : decode M_X10_put.2.1 7 = .ok (.bastore, 1) := by decide +kernel
theorem dX10_put_8 : decode M_X10_put.2.1 8 = .ok (.aload_n 0, 1) := by decide +kernel
theorem dX10_put_9 : decode M_X10_put.2.1 9 = .ok (.iconst 0, 1) := by decide +kernel
theorem dX10_put_10 : decode M_X10_put.2.1 10 = .ok (.putfield 145, 3) := by decide +kernel
theorem dX10_put_13 : decode M_X10_put.2.1 13 = .ok (.iconst 0, 1) := by decide +kernel
theorem dX10_put_14 : decode M_X10_put.2.1 14 = .ok (.istore_n 3, 1) := by decide +kernel
theorem dX10_put_15 : decode M_X10_put.2.1 15 = .ok (.iload_n 3, 1) := by decide +kernel
theorem dX10_put_16 : decode M_X10_put.2.1 16 = .ok (.iconst 4, 1) := by decide +kernel
theorem dX10_put_17 : decode M_X10_put.2.1 17 = .ok (.if_icmp .ge 57, 3) := by decide +kernel
theorem dX10_put_20 : decode M_X10_put.2.1 20 = .ok (.aload_n 0, 1) := by decide +kernel
theorem dX10_put_21 : decode M_X10_put.2.1 21 = .ok (.iload_n 1, 1) := by decide +kernel
theorem dX10_put_22 : decode M_X10_put.2.1 22 = .ok (.iload_n 3, 1) := by decide +kernel
theorem dX10_put_23 : decode M_X10_put.2.1 23 = .ok (.invokevirtual 142, 3) := by decide +kernel
theorem dX10_put_26 : decode M_X10_put.2.1 26 = .ok (.istore 4, 2) := by decide +kernel
theorem dX10_put_28 : decode M_X10_put.2.1 28 = .ok (.iload 4, 2) := by decide +kernel
theorem dX10_put_30 : decode M_X10_put.2.1 30 = .ok (.ifCond .lt 38, 3) := by decide +kernel
theorem dX10_put_33 : decode M_X10_put.2.1 33 = .ok (.aload_n 0, 1) := by decide +kernel
theorem dX10_put_34 : decode M_X10_put.2.1 34 = .ok (.getfield 46, 3) := by decide +kernel
theorem dX10_put_37 : decode M_X10_put.2.1 37 = .ok (.iload 4, 2) := by decide +kernel
theorem dX10_put_39 : decode M_X10_put.2.1 39 = .ok (.baload, 1) := by decide +kernel
theorem dX10_put_40 : decode M_X10_put.2.1 40 = .ok (.iconst 3, 1) := by decide +kernel
theorem dX10_put_41 : decode M_X10_put.2.1 41 = .ok (.iload_n 2, 1) := by decide +kernel
theorem dX10_put_42 : decode M_X10_put.2.1 42 = .ok (.isub, 1) := by decide +kernel
theorem dX10_put_43 : decode M_X10_put.2.1 43 = .ok (.if_icmp .ne 25, 3) := by decide +kernel
theorem dX10_put_46 : decode M_X10_put.2.1 46 = .ok (.aload_n 0, 1) := by decide +kernel
theorem dX10_put_47 : decode M_X10_put.2.1 47 = .ok (.iload 4, 2) := by decide +kernel
theorem dX10_put_49 : decode M_X10_put.2.1 49 = .ok (.invokevirtual 148, 3) := by decide +kernel
theorem dX10_put_52 : decode M_X10_put.2.1 52 = .ok (.ifCond .ne 16, 3) := by decide +kernel
theorem dX10_put_55 : decode M_X10_put.2.1 55 = .ok (.aload_n 0, 1) := by decide +kernel
theorem dX10_put_56 : decode M_X10_put.2.1 56 = .ok (.dup, 1) := by decide +kernel
theorem dX10_put_57 : decode M_X10_put.2.1 57 = .ok (.getfield 145, 3) := by decide +kernel
theorem dX10_put_60 : decode M_X10_put.2.1 60 = .ok (.aload_n 0, 1) := by decide +kernel
theorem dX10_put_61 : decode M_X10_put.2.1 61 = .ok (.invokevirtual 152, 3) := by decide +kernel
theorem dX10_put_64 : decode M_X10_put.2.1 64 = .ok (.iadd, 1) := by decide +kernel
theorem dX10_put_65 : decode M_X10_put.2.1 65 = .ok (.putfield 145, 3) := by decide +kernel
theorem dX10_put_68 : decode M_X10_put.2.1 68 = .ok (.iinc 3 1, 3) := by decide +kernel
theorem dX10_put_71 : decode M_X10_put.2.1 71 = .ok (.goto (-56), 3) := by decide +kernel
theorem dX10_put_74 : decode M_X10_put.2.1 74 = .ok (.aload_n 0, 1) := by decide +kernel
theorem dX10_put_75 : decode M_X10_put.2.1 75 = .ok (.iload_n 1, 1) := by decide +kernel
theorem dX10_put_76 : decode M_X10_put.2.1 76 = .ok (.invokevirtual 148, 3) := by decide +kernel
theorem dX10_put_79 : decode M_X10_put.2.1 79 = .ok (.ifCond .le 7, 3) := by decide +kernel
theorem dX10_put_82 : decode M_X10_put.2.1 82 = .ok (.iconst 1, 1) := by decide +kernel
theorem dX10_put_83 : decode M_X10_put.2.1 83 = .ok (.goto 4, 3) := by decide +kernel
theorem dX10_put_86 : decode M_X10_put.2.1 86 = .ok (.iconst 0, 1) := by decide +kernel
theorem dX10_put_87 : decode M_X10_put.2.1 87 = .ok (.ireturn, 1) := by decide +kernel
def L_X10_put_15 (X : ZX) (d n : Nat) (P : Option Value → ZSto → Prop) (x1 : Int) (x2 : Int) (x3 : Int) (σ : ZSto) : Prop := R32 x1 → R32 x2 → R32 x3 → ZOk n σ → Zn X M_X10_put d n P 15 [some (.ref (zB X + 73)), some (iV x1), some (iV x2), some (iV x3), none] [] σ
theorem w_X10_put {X : ZX} {d n : Nat} {P : Int → ZSto → Prop} {x1 : Int} {x2 : Int} {σ : ZSto} (hn : 104 ≤ n)  (hx1 : R32 x1) (hx2 : R32 x2)
    (h : (0 ≤ x1 ∧ x1 < 81) ∧ L_X10_put_15 X d n (zpZ P) x1 x2 0 (sI (sI σ 84 x1.toNat (w8 x2)) 73 18 0)) :
    ZkZ X M_X10_put (d + 1) n [.ref (zB X + 73), iV x1, iV x2] σ P := by
  refine zk_of (ls := [some (.ref (zB X + 73)), some (iV x1), some (iV x2), none, none]) pl_RX10 (Nat.le_of_ble_eq_true rfl) rfl (fun k0 => ?_)
  unfold Zn
  refine r_aload_n dX10_put_0 rfl ?_
  refine r_getP (a := 84) dX10_put_1 kf_RX10_46 (zlt hn rfl) sh_73 rfl (k0.1 _ _ _ (zlt hn rfl) p_73_14) ?_
  refine r_iload_n dX10_put_4 rfl ?_
  refine r_iload_n dX10_put_5 rfl ?_
  refine r_i2b dX10_put_6 ?_
  obtain ⟨h1, h2⟩ := h
  refine r_bastore dX10_put_7 (zlt hn rfl) sh_84 h1.1 h1.2 (w8_lo _) (w8_hi _) ?_
  have k3 := zok_b (i := x1.toNat) (x := w8 x2) k0 sh_84 (w8_lo _) (w8_hi _)
  refine r_aload_n dX10_put_8 rfl ?_
  refine r_iconst dX10_put_9 ?_
  refine r_putI dX10_put_10 kf_RX10_145 (zlt hn rfl) sh_73 rfl (Or.inl rfl) ?_
  have k4 := zok_o (i := 18) (x := 0) k3 sh_73 (r32c rfl)
  refine r_iconst dX10_put_13 ?_
  refine r_istore_n dX10_put_14 rfl rfl ?_
  exact r_mask [true, true, true, true, false] rfl (h2 hx1 hx2 (r32c rfl) k4)
theorem b_X10_put_15 {X : ZX} {d n : Nat} {P : Int → ZSto → Prop} {x1 : Int} {x2 : Int} {x3 : Int} {σ : ZSto} (hn : 104 ≤ n) 
    (h : (4 ≤ x3 → ZkI X M_X10_flood d n [.ref (zB X + 73), iV x1] σ (fun v4 σ5 => (v4 ≤ 0 → P 0 σ5) ∧ (¬ (v4 ≤ 0) → P 1 σ5))) ∧ (¬ (4 ≤ x3) → ZkI X M_X10_beside d n [.ref (zB X + 73), iV x1, iV x3] σ (fun v14 σ15 => (v14 < 0 → R32 (x3 + 1) ∧ L_X10_put_15 X d n (zpZ P) x1 x2 (x3 + 1) σ15) ∧ (¬ (v14 < 0) → (0 ≤ v14 ∧ v14 < 81) ∧ R32 (3 - x2) ∧ (¬ gI σ15 84 v14.toNat = 3 - x2 → R32 (x3 + 1) ∧ L_X10_put_15 X d n (zpZ P) x1 x2 (x3 + 1) σ15) ∧ (gI σ15 84 v14.toNat = 3 - x2 → ZkI X M_X10_flood d n [.ref (zB X + 73), iV v14] σ15 (fun v35 σ36 => (¬ v35 = 0 → R32 (x3 + 1) ∧ L_X10_put_15 X d n (zpZ P) x1 x2 (x3 + 1) σ36) ∧ (v35 = 0 → ZkI X M_X10_takes d n [.ref (zB X + 73)] σ36 (fun v46 σ47 => R32 ((gI σ36 73 18) + v46) ∧ R32 (x3 + 1) ∧ L_X10_put_15 X d n (zpZ P) x1 x2 (x3 + 1) (sI σ47 73 18 ((gI σ36 73 18) + v46)))))))))) :
    L_X10_put_15 X d n (zpZ P) x1 x2 x3 σ := by
  intro hx1 hx2 hx3 k0
  unfold Zn
  refine r_iload_n dX10_put_15 rfl ?_
  refine r_iconst dX10_put_16 ?_
  refine r_icmp_ge (t := 74) dX10_put_17 rfl hx3 (r32c rfl) (fun c1 => ?_) (fun c2 => ?_)
  · have h3 := h.1 c1
    refine r_aload_n dX10_put_74 rfl ?_
    refine r_iload_n dX10_put_75 rfl ?_
    refine n_callV (N := M_X10_flood) (As := [iV x1]) (st := []) dX10_put_76 mk_X10_flood km_RX10_148 kd_X10_flood rfl (zlt hn rfl) sh_73 (q := (RX10, TX10, 52)) rfl rfl (zFits_rm d n n n (Nat.le_refl n)) (Nat.le_of_ble_eq_true rfl) rfl k0 h3 ?_
    rintro _ σ5 k6 ⟨v4, rfl, h7, h8⟩
    change Zm _ _ _ _ _ _ 79 _ [iV v4] _
    refine r_if_le (t := 86) dX10_put_79 rfl h7  (fun c9 => ?_) (fun c10 => ?_)
    · have h11 := h8.1 c9
      refine r_iconst dX10_put_86 ?_
      exact r_zreturn dX10_put_87 rfl (Or.inl rfl) ⟨k6, _, rfl, (Or.inl rfl), h11⟩
    · have h12 := h8.2 c10
      refine r_iconst dX10_put_82 ?_
      refine r_goto (t := 87) dX10_put_83 rfl ?_
      exact r_zreturn dX10_put_87 rfl (Or.inr rfl) ⟨k6, _, rfl, (Or.inr rfl), h12⟩
  · have h13 := h.2 c2
    refine r_aload_n dX10_put_20 rfl ?_
    refine r_iload_n dX10_put_21 rfl ?_
    refine r_iload_n dX10_put_22 rfl ?_
    refine n_callV (N := M_X10_beside) (As := [iV x1, iV x3]) (st := []) dX10_put_23 mk_X10_beside km_RX10_142 kd_X10_beside rfl (zlt hn rfl) sh_73 (q := (RX10, TX10, 52)) rfl rfl (zFits_rm d n n n (Nat.le_refl n)) (Nat.le_of_ble_eq_true rfl) rfl k0 h13 ?_
    rintro _ σ15 k16 ⟨v14, rfl, h17, h18⟩
    change Zm _ _ _ _ _ _ 26 _ [iV v14] _
    refine r_istore dX10_put_26 rfl rfl ?_
    refine r_iload dX10_put_28 rfl ?_
    refine r_if_lt (t := 68) dX10_put_30 rfl h17  (fun c19 => ?_) (fun c20 => ?_)
    · have h21 := h18.1 c19
      refine r_iinc dX10_put_68 rfl rfl rfl ?_
      refine r_goto (t := 15) dX10_put_71 rfl ?_
      obtain ⟨h22, h23⟩ := h21
      exact r_mask [true, true, true, true, false] rfl (h23 hx1 hx2 h22 k16)
    · have h24 := h18.2 c20
      refine r_aload_n dX10_put_33 rfl ?_
      refine r_getP (a := 84) dX10_put_34 kf_RX10_46 (zlt hn rfl) sh_73 rfl (k16.1 _ _ _ (zlt hn rfl) p_73_14) ?_
      refine r_iload dX10_put_37 rfl ?_
      obtain ⟨h25, h26⟩ := h24
      refine r_baloadE dX10_put_39 (zlt hn rfl) sh_84 h25.1 h25.2 rfl ?_
      refine r_iconst dX10_put_40 ?_
      refine r_iload_n dX10_put_41 rfl ?_
      refine r_isub dX10_put_42 ?_
      obtain ⟨h27, h28⟩ := h26
      refine r_icmp_ne (t := 68) dX10_put_43 rfl (k16.2.1 _ _) h27 (fun c29 => ?_) (fun c30 => ?_)
      · have h31 := h28.1 c29
        refine r_iinc dX10_put_68 rfl rfl rfl ?_
        refine r_goto (t := 15) dX10_put_71 rfl ?_
        obtain ⟨h32, h33⟩ := h31
        exact r_mask [true, true, true, true, false] rfl (h33 hx1 hx2 h32 k16)
      · have h34 := h28.2 c30
        refine r_aload_n dX10_put_46 rfl ?_
        refine r_iload dX10_put_47 rfl ?_
        refine n_callV (N := M_X10_flood) (As := [iV v14]) (st := []) dX10_put_49 mk_X10_flood km_RX10_148 kd_X10_flood rfl (zlt hn rfl) sh_73 (q := (RX10, TX10, 52)) rfl rfl (zFits_rm d n n n (Nat.le_refl n)) (Nat.le_of_ble_eq_true rfl) rfl k16 h34 ?_
        rintro _ σ36 k37 ⟨v35, rfl, h38, h39⟩
        change Zm _ _ _ _ _ _ 52 _ [iV v35] _
        refine r_if_ne (t := 68) dX10_put_52 rfl h38  (fun c40 => ?_) (fun c41 => ?_)
        · have h42 := h39.1 c40
          refine r_iinc dX10_put_68 rfl rfl rfl ?_
          refine r_goto (t := 15) dX10_put_71 rfl ?_
          obtain ⟨h43, h44⟩ := h42
          exact r_mask [true, true, true, true, false] rfl (h44 hx1 hx2 h43 k37)
        · have h45 := h39.2 c41
          refine r_aload_n dX10_put_55 rfl ?_
          refine r_dup dX10_put_56 rfl ?_
          refine r_getI dX10_put_57 kf_RX10_145 (zlt hn rfl) sh_73 (Or.inl rfl) rfl ?_
          refine r_aload_n dX10_put_60 rfl ?_
          refine n_callV (N := M_X10_takes) (As := []) (st := [iV (gI σ36 73 18), .ref (zB X + 73)]) dX10_put_61 mk_X10_takes km_RX10_152 kd_X10_takes rfl (zlt hn rfl) sh_73 (q := (RX10, TX10, 52)) rfl rfl (zFits_rm d n n n (Nat.le_refl n)) (Nat.le_of_ble_eq_true rfl) rfl k37 h45 ?_
          rintro _ σ47 k48 ⟨v46, rfl, h49, h50⟩
          change Zm _ _ _ _ _ _ 64 _ [iV v46, iV (gI σ36 73 18), .ref (zB X + 73)] _
          refine r_iadd dX10_put_64 ?_
          obtain ⟨h51, h52⟩ := h50
          refine r_putI dX10_put_65 kf_RX10_145 (zlt hn rfl) sh_73 rfl (Or.inl rfl) ?_
          have k53 := zok_o (i := 18) (x := (gI σ36 73 18) + v46) k48 sh_73 h51
          refine r_iinc dX10_put_68 rfl rfl rfl ?_
          refine r_goto (t := 15) dX10_put_71 rfl ?_
          obtain ⟨h54, h55⟩ := h52
          exact r_mask [true, true, true, true, false] rfl (h55 hx1 hx2 h54 k53)
/-! StoneRoomModel.isBoard -/
theorem dX10_isBoard_0 : decode M_X10_isBoard.2.1 0 = .ok (.iconst 0, 1) := by decide +kernel
theorem dX10_isBoard_1 : decode M_X10_isBoard.2.1 1 = .ok (.istore_n 2, 1) := by decide +kernel
theorem dX10_isBoard_2 : decode M_X10_isBoard.2.1 2 = .ok (.iload_n 2, 1) := by decide +kernel
theorem dX10_isBoard_3 : decode M_X10_isBoard.2.1 3 = .ok (.bipush 81, 2) := by decide +kernel
theorem dX10_isBoard_5 : decode M_X10_isBoard.2.1 5 = .ok (.if_icmp .ge 31, 3) := by decide +kernel
theorem dX10_isBoard_8 : decode M_X10_isBoard.2.1 8 = .ok (.aload_n 0, 1) := by decide +kernel
theorem dX10_isBoard_9 : decode M_X10_isBoard.2.1 9 = .ok (.getfield 26, 3) := by decide +kernel
theorem dX10_isBoard_12 : decode M_X10_isBoard.2.1 12 = .ok (.bipush 81, 2) := by decide +kernel
theorem dX10_isBoard_14 : decode M_X10_isBoard.2.1 14 = .ok (.iload_n 1, 1) := by decide +kernel
theorem dX10_isBoard_15 : decode M_X10_isBoard.2.1 15 = .ok (.imul, 1) := by decide +kernel
theorem dX10_isBoard_16 : decode M_X10_isBoard.2.1 16 = .ok (.iload_n 2, 1) := by decide +kernel
theorem dX10_isBoard_17 : decode M_X10_isBoard.2.1 17 = .ok (.iadd, 1) := by decide +kernel
theorem dX10_isBoard_18 : decode M_X10_isBoard.2.1 18 = .ok (.baload, 1) := by decide +kernel
theorem dX10_isBoard_19 : decode M_X10_isBoard.2.1 19 = .ok (.aload_n 0, 1) := by decide +kernel
theorem dX10_isBoard_20 : decode M_X10_isBoard.2.1 20 = .ok (.getfield 46, 3) := by decide +kernel
theorem dX10_isBoard_23 : decode M_X10_isBoard.2.1 23 = .ok (.iload_n 2, 1) := by decide +kernel
theorem dX10_isBoard_24 : decode M_X10_isBoard.2.1 24 = .ok (.baload, 1) := by decide +kernel
theorem dX10_isBoard_25 : decode M_X10_isBoard.2.1 25 = .ok (.if_icmp .eq 5, 3) := by decide +kernel
theorem dX10_isBoard_28 : decode M_X10_isBoard.2.1 28 = .ok (.iconst 0, 1) := by decide +kernel
theorem dX10_isBoard_29 : decode M_X10_isBoard.2.1 29 = .ok (.ireturn, 1) := by decide +kernel
theorem dX10_isBoard_30 : decode M_X10_isBoard.2.1 30 = .ok (.iinc 2 1, 3) := by decide +kernel
theorem dX10_isBoard_33 : decode M_X10_isBoard.2.1 33 = .ok (.goto (-31), 3) := by decide +kernel
theorem dX10_isBoard_36 : decode M_X10_isBoard.2.1 36 = .ok (.iconst 1, 1) := by decide +kernel
theorem dX10_isBoard_37 : decode M_X10_isBoard.2.1 37 = .ok (.ireturn, 1) := by decide +kernel
def L_X10_isBoard_2 (X : ZX) (d n : Nat) (P : Option Value → ZSto → Prop) (x1 : Int) (x2 : Int) (σ : ZSto) : Prop := R32 x1 → R32 x2 → ZOk n σ → Zn X M_X10_isBoard d n P 2 [some (.ref (zB X + 73)), some (iV x1), some (iV x2)] [] σ
theorem w_X10_isBoard {X : ZX} {d n : Nat} {P : Int → ZSto → Prop} {x1 : Int} {σ : ZSto} (hn : 104 ≤ n)  (hx1 : R32 x1)
    (h : L_X10_isBoard_2 X d n (zpZ P) x1 0 σ) :
    ZkZ X M_X10_isBoard (d + 1) n [.ref (zB X + 73), iV x1] σ P := by
  refine zk_of (ls := [some (.ref (zB X + 73)), some (iV x1), none]) pl_RX10 (Nat.le_of_ble_eq_true rfl) rfl (fun k0 => ?_)
  unfold Zn
  refine r_iconst dX10_isBoard_0 ?_
  refine r_istore_n dX10_isBoard_1 rfl rfl ?_
  exact r_mask [true, true, true] rfl (h hx1 (r32c rfl) k0)
theorem b_X10_isBoard_2 {X : ZX} {d n : Nat} {P : Int → ZSto → Prop} {x1 : Int} {x2 : Int} {σ : ZSto} (hn : 104 ≤ n) 
    (h : (81 ≤ x2 → P 1 σ) ∧ (¬ (81 ≤ x2) → (0 ≤ (81 * x1) + x2 ∧ (81 * x1) + x2 < 40500) ∧ (0 ≤ x2 ∧ x2 < 81) ∧ (gI σ 79 (((81 * x1) + x2).toNat) = gI σ 84 x2.toNat → R32 (x2 + 1) ∧ L_X10_isBoard_2 X d n (zpZ P) x1 (x2 + 1) σ) ∧ (¬ (gI σ 79 (((81 * x1) + x2).toNat) = gI σ 84 x2.toNat) → P 0 σ))) :
    L_X10_isBoard_2 X d n (zpZ P) x1 x2 σ := by
  intro hx1 hx2 k0
  unfold Zn
  refine r_iload_n dX10_isBoard_2 rfl ?_
  refine r_bipush dX10_isBoard_3 rfl ?_
  refine r_icmp_ge (t := 36) dX10_isBoard_5 rfl hx2 (r32c rfl) (fun c1 => ?_) (fun c2 => ?_)
  · have h3 := h.1 c1
    refine r_iconst dX10_isBoard_36 ?_
    exact r_zreturn dX10_isBoard_37 rfl (Or.inr rfl) ⟨k0, _, rfl, (Or.inr rfl), h3⟩
  · have h4 := h.2 c2
    refine r_aload_n dX10_isBoard_8 rfl ?_
    refine r_getP (a := 79) dX10_isBoard_9 kf_RX10_26 (zlt hn rfl) sh_73 rfl (k0.1 _ _ _ (zlt hn rfl) p_73_5) ?_
    refine r_bipush dX10_isBoard_12 rfl ?_
    refine r_iload_n dX10_isBoard_14 rfl ?_
    refine r_imul dX10_isBoard_15 ?_
    refine r_iload_n dX10_isBoard_16 rfl ?_
    refine r_iadd dX10_isBoard_17 ?_
    obtain ⟨h5, h6⟩ := h4
    refine r_baloadE dX10_isBoard_18 (zlt hn rfl) sh_79 h5.1 h5.2 rfl ?_
    refine r_aload_n dX10_isBoard_19 rfl ?_
    refine r_getP (a := 84) dX10_isBoard_20 kf_RX10_46 (zlt hn rfl) sh_73 rfl (k0.1 _ _ _ (zlt hn rfl) p_73_14) ?_
    refine r_iload_n dX10_isBoard_23 rfl ?_
    obtain ⟨h7, h8⟩ := h6
    refine r_baloadE dX10_isBoard_24 (zlt hn rfl) sh_84 h7.1 h7.2 rfl ?_
    refine r_icmp_eq (t := 30) dX10_isBoard_25 rfl (k0.2.1 _ _) (k0.2.1 _ _) (fun c9 => ?_) (fun c10 => ?_)
    · have h11 := h8.1 c9
      refine r_iinc dX10_isBoard_30 rfl rfl rfl ?_
      refine r_goto (t := 2) dX10_isBoard_33 rfl ?_
      obtain ⟨h12, h13⟩ := h11
      exact r_mask [true, true, true] rfl (h13 hx1 h12 k0)
    · have h14 := h8.2 c10
      refine r_iconst dX10_isBoard_28 ?_
      exact r_zreturn dX10_isBoard_29 rfl (Or.inl rfl) ⟨k0, _, rfl, (Or.inl rfl), h14⟩
/-! StoneRoomModel.turn -/
theorem dX10_turn_0 : decode M_X10_turn.2.1 0 = .ok (.aload_n 0, 1) := by decide +kernel
theorem dX10_turn_1 : decode M_X10_turn.2.1 1 = .ok (.getfield 13, 3) := by decide +kernel
theorem dX10_turn_4 : decode M_X10_turn.2.1 4 = .ok (.iload_n 1, 1) := by decide +kernel
theorem dX10_turn_5 : decode M_X10_turn.2.1 5 = .ok (.iaload, 1) := by decide +kernel
theorem dX10_turn_6 : decode M_X10_turn.2.1 6 = .ok (.ifCond .eq 12, 3) := by decide +kernel
theorem dX10_turn_9 : decode M_X10_turn.2.1 9 = .ok (.iconst 3, 1) := by decide +kernel
theorem dX10_turn_10 : decode M_X10_turn.2.1 10 = .ok (.aload_n 0, 1) := by decide +kernel
theorem dX10_turn_11 : decode M_X10_turn.2.1 11 = .ok (.getfield 16, 3) := by decide +kernel
theorem dX10_turn_14 : decode M_X10_turn.2.1 14 = .ok (.iload_n 1, 1) := by decide +kernel
theorem dX10_turn_15 : decode M_X10_turn.2.1 15 = .ok (.iaload, 1) := by decide +kernel
theorem dX10_turn_16 : decode M_X10_turn.2.1 16 = .ok (.isub, 1) := by decide +kernel
theorem dX10_turn_17 : decode M_X10_turn.2.1 17 = .ok (.ireturn, 1) := by decide +kernel
theorem dX10_turn_18 : decode M_X10_turn.2.1 18 = .ok (.iload_n 1, 1) := by decide +kernel
theorem dX10_turn_19 : decode M_X10_turn.2.1 19 = .ok (.istore_n 2, 1) := by decide +kernel
theorem dX10_turn_20 : decode M_X10_turn.2.1 20 = .ok (.aload_n 0, 1) := by decide +kernel
theorem dX10_turn_21 : decode M_X10_turn.2.1 21 = .ok (.getfield 7, 3) := by decide +kernel
theorem dX10_turn_24 : decode M_X10_turn.2.1 24 = .ok (.iload_n 2, 1) := by decide +kernel
theorem dX10_turn_25 : decode M_X10_turn.2.1 25 = .ok (.iaload, 1) := by decide +kernel
theorem dX10_turn_26 : decode M_X10_turn.2.1 26 = .ok (.ifCond .lt 22, 3) := by decide +kernel
theorem dX10_turn_29 : decode M_X10_turn.2.1 29 = .ok (.aload_n 0, 1) := by decide +kernel
theorem dX10_turn_30 : decode M_X10_turn.2.1 30 = .ok (.getfield 13, 3) := by decide +kernel
theorem dX10_turn_33 : decode M_X10_turn.2.1 33 = .ok (.iload_n 2, 1) := by decide +kernel
theorem dX10_turn_34 : decode M_X10_turn.2.1 34 = .ok (.iaload, 1) := by decide +kernel
theorem dX10_turn_35 : decode M_X10_turn.2.1 35 = .ok (.ifCond .ne 13, 3) := by decide +kernel
theorem dX10_turn_38 : decode M_X10_turn.2.1 38 = .ok (.aload_n 0, 1) := by decide +kernel
theorem dX10_turn_39 : decode M_X10_turn.2.1 39 = .ok (.getfield 7, 3) := by decide +kernel
theorem dX10_turn_42 : decode M_X10_turn.2.1 42 = .ok (.iload_n 2, 1) := by decide +kernel
theorem dX10_turn_43 : decode M_X10_turn.2.1 43 = .ok (.iaload, 1) := by decide +kernel
theorem dX10_turn_44 : decode M_X10_turn.2.1 44 = .ok (.istore_n 2, 1) := by decide +kernel
theorem dX10_turn_45 : decode M_X10_turn.2.1 45 = .ok (.goto (-25), 3) := by decide +kernel
theorem dX10_turn_48 : decode M_X10_turn.2.1 48 = .ok (.aload_n 0, 1) := by decide +kernel
theorem dX10_turn_49 : decode M_X10_turn.2.1 49 = .ok (.getfield 13, 3) := by decide +kernel
theorem dX10_turn_52 : decode M_X10_turn.2.1 52 = .ok (.iload_n 2, 1) := by decide +kernel
theorem dX10_turn_53 : decode M_X10_turn.2.1 53 = .ok (.iaload, 1) := by decide +kernel
theorem dX10_turn_54 : decode M_X10_turn.2.1 54 = .ok (.ifCond .eq 12, 3) := by decide +kernel
theorem dX10_turn_57 : decode M_X10_turn.2.1 57 = .ok (.iconst 3, 1) := by decide +kernel
theorem dX10_turn_58 : decode M_X10_turn.2.1 58 = .ok (.aload_n 0, 1) := by decide +kernel
theorem dX10_turn_59 : decode M_X10_turn.2.1 59 = .ok (.getfield 16, 3) := by decide +kernel
theorem dX10_turn_62 : decode M_X10_turn.2.1 62 = .ok (.iload_n 2, 1) := by decide +kernel
theorem dX10_turn_63 : decode M_X10_turn.2.1 63 = .ok (.iaload, 1) := by decide +kernel
theorem dX10_turn_64 : decode M_X10_turn.2.1 64 = .ok (.isub, 1) := by decide +kernel
theorem dX10_turn_65 : decode M_X10_turn.2.1 65 = .ok (.ireturn, 1) := by decide +kernel
theorem dX10_turn_66 : decode M_X10_turn.2.1 66 = .ok (.iconst 0, 1) := by decide +kernel
theorem dX10_turn_67 : decode M_X10_turn.2.1 67 = .ok (.istore_n 3, 1) := by decide +kernel
theorem dX10_turn_68 : decode M_X10_turn.2.1 68 = .ok (.iconst 0, 1) := by decide +kernel
theorem dX10_turn_69 : decode M_X10_turn.2.1 69 = .ok (.istore 4, 2) := by decide +kernel
theorem dX10_turn_71 : decode M_X10_turn.2.1 71 = .ok (.iconst 0, 1) := by decide +kernel
theorem dX10_turn_72 : decode M_X10_turn.2.1 72 = .ok (.istore 5, 2) := by decide +kernel
theorem dX10_turn_74 : decode M_X10_turn.2.1 74 = .ok (.iload 5, 2) := by decide +kernel
theorem dX10_turn_76 : decode M_X10_turn.2.1 76 = .ok (.bipush 81, 2) := by decide +kernel
theorem dX10_turn_78 : decode M_X10_turn.2.1 78 = .ok (.if_icmp .ge 63, 3) := by decide +kernel
theorem dX10_turn_81 : decode M_X10_turn.2.1 81 = .ok (.iload_n 3, 1) := by decide +kernel
theorem dX10_turn_82 : decode M_X10_turn.2.1 82 = .ok (.ifCond .ne 19, 3) := by decide +kernel
theorem dX10_turn_85 : decode M_X10_turn.2.1 85 = .ok (.aload_n 0, 1) := by decide +kernel
theorem dX10_turn_86 : decode M_X10_turn.2.1 86 = .ok (.getfield 30, 3) := by decide +kernel
theorem dX10_turn_89 : decode M_X10_turn.2.1 89 = .ok (.bipush 81, 2) := by decide +kernel
theorem dX10_turn_91 : decode M_X10_turn.2.1 91 = .ok (.iload_n 2, 1) := by decide +kernel
theorem dX10_turn_92 : decode M_X10_turn.2.1 92 = .ok (.imul, 1) := by decide +kernel
theorem dX10_turn_93 : decode M_X10_turn.2.1 93 = .ok (.iload 5, 2) := by decide +kernel
theorem dX10_turn_95 : decode M_X10_turn.2.1 95 = .ok (.iadd, 1) := by decide +kernel
theorem dX10_turn_96 : decode M_X10_turn.2.1 96 = .ok (.baload, 1) := by decide +kernel
theorem dX10_turn_97 : decode M_X10_turn.2.1 97 = .ok (.iconst 1, 1) := by decide +kernel
theorem dX10_turn_98 : decode M_X10_turn.2.1 98 = .ok (.if_icmp .ne 7, 3) := by decide +kernel
theorem dX10_turn_101 : decode M_X10_turn.2.1 101 = .ok (.iconst 1, 1) := by decide +kernel
theorem dX10_turn_102 : decode M_X10_turn.2.1 102 = .ok (.goto 4, 3) := by decide +kernel
theorem dX10_turn_105 : decode M_X10_turn.2.1 105 = .ok (.iconst 0, 1) := by decide +kernel
theorem dX10_turn_106 : decode M_X10_turn.2.1 106 = .ok (.istore_n 3, 1) := by decide +kernel
theorem dX10_turn_107 : decode M_X10_turn.2.1 107 = .ok (.iload 4, 2) := by decide +kernel
theorem dX10_turn_109 : decode M_X10_turn.2.1 109 = .ok (.ifCond .ne 19, 3) := by decide +kernel
theorem dX10_turn_112 : decode M_X10_turn.2.1 112 = .ok (.aload_n 0, 1) := by decide +kernel
theorem dX10_turn_113 : decode M_X10_turn.2.1 113 = .ok (.getfield 30, 3) := by decide +kernel
theorem dX10_turn_116 : decode M_X10_turn.2.1 116 = .ok (.bipush 81, 2) := by decide +kernel
theorem dX10_turn_118 : decode M_X10_turn.2.1 118 = .ok (.iload_n 2, 1) := by decide +kernel
theorem dX10_turn_119 : decode M_X10_turn.2.1 119 = .ok (.imul, 1) := by decide +kernel
theorem dX10_turn_120 : decode M_X10_turn.2.1 120 = .ok (.iload 5, 2) := by decide +kernel
theorem dX10_turn_122 : decode M_X10_turn.2.1 122 = .ok (.iadd, 1) := by decide +kernel
theorem dX10_turn_123 : decode M_X10_turn.2.1 123 = .ok (.baload, 1) := by decide +kernel
theorem dX10_turn_124 : decode M_X10_turn.2.1 124 = .ok (.iconst 2, 1) := by decide +kernel
theorem dX10_turn_125 : decode M_X10_turn.2.1 125 = .ok (.if_icmp .ne 7, 3) := by decide +kernel
theorem dX10_turn_128 : decode M_X10_turn.2.1 128 = .ok (.iconst 1, 1) := by decide +kernel
theorem dX10_turn_129 : decode M_X10_turn.2.1 129 = .ok (.goto 4, 3) := by decide +kernel
theorem dX10_turn_132 : decode M_X10_turn.2.1 132 = .ok (.iconst 0, 1) := by decide +kernel
theorem dX10_turn_133 : decode M_X10_turn.2.1 133 = .ok (.istore 4, 2) := by decide +kernel
theorem dX10_turn_135 : decode M_X10_turn.2.1 135 = .ok (.iinc 5 1, 3) := by decide +kernel
theorem dX10_turn_138 : decode M_X10_turn.2.1 138 = .ok (.goto (-64), 3) := by decide +kernel
theorem dX10_turn_141 : decode M_X10_turn.2.1 141 = .ok (.iload_n 3, 1) := by decide +kernel
theorem dX10_turn_142 : decode M_X10_turn.2.1 142 = .ok (.ifCond .eq 12, 3) := by decide +kernel
theorem dX10_turn_145 : decode M_X10_turn.2.1 145 = .ok (.iload 4, 2) := by decide +kernel
theorem dX10_turn_147 : decode M_X10_turn.2.1 147 = .ok (.ifCond .ne 7, 3) := by decide +kernel
theorem dX10_turn_150 : decode M_X10_turn.2.1 150 = .ok (.iconst 2, 1) := by decide +kernel
theorem dX10_turn_151 : decode M_X10_turn.2.1 151 = .ok (.goto 4, 3) := by decide +kernel
theorem dX10_turn_154 : decode M_X10_turn.2.1 154 = .ok (.iconst 1, 1) := by decide +kernel
theorem dX10_turn_155 : decode M_X10_turn.2.1 155 = .ok (.ireturn, 1) := by decide +kernel
def L_X10_turn_20 (X : ZX) (d n : Nat) (P : Option Value → ZSto → Prop) (x2 : Int) (σ : ZSto) : Prop := R32 x2 → ZOk n σ → Zn X M_X10_turn d n P 20 [some (.ref (zB X + 73)), none, some (iV x2), none, none, none] [] σ
def L_X10_turn_74 (X : ZX) (d n : Nat) (P : Option Value → ZSto → Prop) (x2 : Int) (x3 : Int) (x4 : Int) (x5 : Int) (σ : ZSto) : Prop := R32 x2 → R32 x3 → R32 x4 → R32 x5 → ZOk n σ → Zn X M_X10_turn d n P 74 [some (.ref (zB X + 73)), none, some (iV x2), some (iV x3), some (iV x4), some (iV x5)] [] σ
def L_X10_turn_101 (X : ZX) (d n : Nat) (P : Option Value → ZSto → Prop) (x2 : Int) (x4 : Int) (x5 : Int) (σ : ZSto) : Prop := R32 x2 → R32 x4 → R32 x5 → ZOk n σ → Zn X M_X10_turn d n P 101 [some (.ref (zB X + 73)), none, some (iV x2), none, some (iV x4), some (iV x5)] [] σ
def L_X10_turn_106 (X : ZX) (d n : Nat) (P : Option Value → ZSto → Prop) (x2 : Int) (x4 : Int) (x5 : Int) (x20 : Int) (σ : ZSto) : Prop := R32 x2 → R32 x4 → R32 x5 → R32 x20 → ZOk n σ → Zn X M_X10_turn d n P 106 [some (.ref (zB X + 73)), none, some (iV x2), none, some (iV x4), some (iV x5)] [iV x20] σ
theorem w_X10_turn {X : ZX} {d n : Nat} {P : Int → ZSto → Prop} {x1 : Int} {σ : ZSto} (hn : 104 ≤ n)  (hx1 : R32 x1)
    (h : (0 ≤ x1 ∧ x1 < 500) ∧ (gI σ 75 x1.toNat = 0 → L_X10_turn_20 X d n (zpI P) x1 σ) ∧ (¬ (gI σ 75 x1.toNat = 0) → R32 (3 - (gI σ 76 x1.toNat)) ∧ P (3 - (gI σ 76 x1.toNat)) σ)) :
    ZkI X M_X10_turn (d + 1) n [.ref (zB X + 73), iV x1] σ P := by
  refine zk_of (ls := [some (.ref (zB X + 73)), some (iV x1), none, none, none, none]) pl_RX10 (Nat.le_of_ble_eq_true rfl) rfl (fun k0 => ?_)
  unfold Zn
  refine r_aload_n dX10_turn_0 rfl ?_
  refine r_getP (a := 75) dX10_turn_1 kf_RX10_13 (zlt hn rfl) sh_73 rfl (k0.1 _ _ _ (zlt hn rfl) p_73_1) ?_
  refine r_iload_n dX10_turn_4 rfl ?_
  obtain ⟨h1, h2⟩ := h
  refine r_ialoadE dX10_turn_5 (zlt hn rfl) sh_75 h1.1 h1.2 rfl ?_
  refine r_if_eq (t := 18) dX10_turn_6 rfl (k0.2.1 _ _)  (fun c3 => ?_) (fun c4 => ?_)
  · have h5 := h2.1 c3
    refine r_iload_n dX10_turn_18 rfl ?_
    refine r_istore_n dX10_turn_19 rfl rfl ?_
    exact r_mask [true, false, true, false, false, false] rfl (h5 hx1 k0)
  · have h6 := h2.2 c4
    refine r_iconst dX10_turn_9 ?_
    refine r_aload_n dX10_turn_10 rfl ?_
    refine r_getP (a := 76) dX10_turn_11 kf_RX10_16 (zlt hn rfl) sh_73 rfl (k0.1 _ _ _ (zlt hn rfl) p_73_2) ?_
    refine r_iload_n dX10_turn_14 rfl ?_
    refine r_ialoadE dX10_turn_15 (zlt hn rfl) sh_76 h1.1 h1.2 rfl ?_
    refine r_isub dX10_turn_16 ?_
    obtain ⟨h7, h8⟩ := h6
    exact r_ireturn dX10_turn_17 rfl ⟨k0, _, rfl, h7, h8⟩
theorem b_X10_turn_20 {X : ZX} {d n : Nat} {P : Int → ZSto → Prop} {x2 : Int} {σ : ZSto} (hn : 104 ≤ n) 
    (h : (0 ≤ x2 ∧ x2 < 500) ∧ (gI σ 74 x2.toNat < 0 → (gI σ 75 x2.toNat = 0 → L_X10_turn_74 X d n (zpI P) x2 0 0 0 σ) ∧ (¬ (gI σ 75 x2.toNat = 0) → R32 (3 - (gI σ 76 x2.toNat)) ∧ P (3 - (gI σ 76 x2.toNat)) σ)) ∧ (¬ (gI σ 74 x2.toNat < 0) → (¬ gI σ 75 x2.toNat = 0 → (gI σ 75 x2.toNat = 0 → L_X10_turn_74 X d n (zpI P) x2 0 0 0 σ) ∧ (¬ (gI σ 75 x2.toNat = 0) → R32 (3 - (gI σ 76 x2.toNat)) ∧ P (3 - (gI σ 76 x2.toNat)) σ)) ∧ (gI σ 75 x2.toNat = 0 → (∀ y23 : Int, y23 = gI σ 74 x2.toNat → L_X10_turn_20 X d n (zpI P) y23 σ)))) :
    L_X10_turn_20 X d n (zpI P) x2 σ := by
  intro hx2 k0
  unfold Zn
  refine r_aload_n dX10_turn_20 rfl ?_
  refine r_getP (a := 74) dX10_turn_21 kf_RX10_7 (zlt hn rfl) sh_73 rfl (k0.1 _ _ _ (zlt hn rfl) p_73_0) ?_
  refine r_iload_n dX10_turn_24 rfl ?_
  obtain ⟨h1, h2⟩ := h
  refine r_ialoadE dX10_turn_25 (zlt hn rfl) sh_74 h1.1 h1.2 rfl ?_
  refine r_if_lt (t := 48) dX10_turn_26 rfl (k0.2.1 _ _)  (fun c3 => ?_) (fun c4 => ?_)
  · have h5 := h2.1 c3
    refine r_aload_n dX10_turn_48 rfl ?_
    refine r_getP (a := 75) dX10_turn_49 kf_RX10_13 (zlt hn rfl) sh_73 rfl (k0.1 _ _ _ (zlt hn rfl) p_73_1) ?_
    refine r_iload_n dX10_turn_52 rfl ?_
    refine r_ialoadE dX10_turn_53 (zlt hn rfl) sh_75 h1.1 h1.2 rfl ?_
    refine r_if_eq (t := 66) dX10_turn_54 rfl (k0.2.1 _ _)  (fun c6 => ?_) (fun c7 => ?_)
    · have h8 := h5.1 c6
      refine r_iconst dX10_turn_66 ?_
      refine r_istore_n dX10_turn_67 rfl rfl ?_
      refine r_iconst dX10_turn_68 ?_
      refine r_istore dX10_turn_69 rfl rfl ?_
      refine r_iconst dX10_turn_71 ?_
      refine r_istore dX10_turn_72 rfl rfl ?_
      exact r_mask [true, false, true, true, true, true] rfl (h8 hx2 (r32c rfl) (r32c rfl) (r32c rfl) k0)
    · have h9 := h5.2 c7
      refine r_iconst dX10_turn_57 ?_
      refine r_aload_n dX10_turn_58 rfl ?_
      refine r_getP (a := 76) dX10_turn_59 kf_RX10_16 (zlt hn rfl) sh_73 rfl (k0.1 _ _ _ (zlt hn rfl) p_73_2) ?_
      refine r_iload_n dX10_turn_62 rfl ?_
      refine r_ialoadE dX10_turn_63 (zlt hn rfl) sh_76 h1.1 h1.2 rfl ?_
      refine r_isub dX10_turn_64 ?_
      obtain ⟨h10, h11⟩ := h9
      exact r_ireturn dX10_turn_65 rfl ⟨k0, _, rfl, h10, h11⟩
  · have h12 := h2.2 c4
    refine r_aload_n dX10_turn_29 rfl ?_
    refine r_getP (a := 75) dX10_turn_30 kf_RX10_13 (zlt hn rfl) sh_73 rfl (k0.1 _ _ _ (zlt hn rfl) p_73_1) ?_
    refine r_iload_n dX10_turn_33 rfl ?_
    refine r_ialoadE dX10_turn_34 (zlt hn rfl) sh_75 h1.1 h1.2 rfl ?_
    refine r_if_ne (t := 48) dX10_turn_35 rfl (k0.2.1 _ _)  (fun c13 => ?_) (fun c14 => ?_)
    · have h15 := h12.1 c13
      refine r_aload_n dX10_turn_48 rfl ?_
      refine r_getP (a := 75) dX10_turn_49 kf_RX10_13 (zlt hn rfl) sh_73 rfl (k0.1 _ _ _ (zlt hn rfl) p_73_1) ?_
      refine r_iload_n dX10_turn_52 rfl ?_
      refine r_ialoadE dX10_turn_53 (zlt hn rfl) sh_75 h1.1 h1.2 rfl ?_
      refine r_if_eq (t := 66) dX10_turn_54 rfl (k0.2.1 _ _)  (fun c16 => ?_) (fun c17 => ?_)
      · have h18 := h15.1 c16
        refine r_iconst dX10_turn_66 ?_
        refine r_istore_n dX10_turn_67 rfl rfl ?_
        refine r_iconst dX10_turn_68 ?_
        refine r_istore dX10_turn_69 rfl rfl ?_
        refine r_iconst dX10_turn_71 ?_
        refine r_istore dX10_turn_72 rfl rfl ?_
        exact r_mask [true, false, true, true, true, true] rfl (h18 hx2 (r32c rfl) (r32c rfl) (r32c rfl) k0)
      · have h19 := h15.2 c17
        refine r_iconst dX10_turn_57 ?_
        refine r_aload_n dX10_turn_58 rfl ?_
        refine r_getP (a := 76) dX10_turn_59 kf_RX10_16 (zlt hn rfl) sh_73 rfl (k0.1 _ _ _ (zlt hn rfl) p_73_2) ?_
        refine r_iload_n dX10_turn_62 rfl ?_
        refine r_ialoadE dX10_turn_63 (zlt hn rfl) sh_76 h1.1 h1.2 rfl ?_
        refine r_isub dX10_turn_64 ?_
        obtain ⟨h20, h21⟩ := h19
        exact r_ireturn dX10_turn_65 rfl ⟨k0, _, rfl, h20, h21⟩
    · have h22 := h12.2 c14
      refine r_aload_n dX10_turn_38 rfl ?_
      refine r_getP (a := 74) dX10_turn_39 kf_RX10_7 (zlt hn rfl) sh_73 rfl (k0.1 _ _ _ (zlt hn rfl) p_73_0) ?_
      refine r_iload_n dX10_turn_42 rfl ?_
      refine r_ialoadE dX10_turn_43 (zlt hn rfl) sh_74 h1.1 h1.2 rfl ?_
      refine r_name (fun y23 e24 => ?_)
      have h25 := h22 y23 e24
      refine r_istore_n dX10_turn_44 rfl rfl ?_
      refine r_goto (t := 20) dX10_turn_45 rfl ?_
      exact r_mask [true, false, true, false, false, false] rfl (h25 (by rw [e24]; exact (k0.2.1 _ _)) k0)
theorem b_X10_turn_74 {X : ZX} {d n : Nat} {P : Int → ZSto → Prop} {x2 : Int} {x3 : Int} {x4 : Int} {x5 : Int} {σ : ZSto} (hn : 104 ≤ n) 
    (h : (81 ≤ x5 → (x3 = 0 → P 1 σ) ∧ (¬ (x3 = 0) → (¬ x4 = 0 → P 1 σ) ∧ (x4 = 0 → P 2 σ))) ∧ (¬ (81 ≤ x5) → (¬ x3 = 0 → L_X10_turn_101 X d n (zpI P) x2 x4 x5 σ) ∧ (x3 = 0 → (0 ≤ (81 * x2) + x5 ∧ (81 * x2) + x5 < 40500) ∧ (¬ gI σ 80 (((81 * x2) + x5).toNat) = 1 → L_X10_turn_106 X d n (zpI P) x2 x4 x5 0 σ) ∧ (gI σ 80 (((81 * x2) + x5).toNat) = 1 → L_X10_turn_101 X d n (zpI P) x2 x4 x5 σ)))) :
    L_X10_turn_74 X d n (zpI P) x2 x3 x4 x5 σ := by
  intro hx2 hx3 hx4 hx5 k0
  unfold Zn
  refine r_iload dX10_turn_74 rfl ?_
  refine r_bipush dX10_turn_76 rfl ?_
  refine r_icmp_ge (t := 141) dX10_turn_78 rfl hx5 (r32c rfl) (fun c1 => ?_) (fun c2 => ?_)
  · have h3 := h.1 c1
    refine r_iload_n dX10_turn_141 rfl ?_
    refine r_if_eq (t := 154) dX10_turn_142 rfl hx3  (fun c4 => ?_) (fun c5 => ?_)
    · have h6 := h3.1 c4
      refine r_iconst dX10_turn_154 ?_
      exact r_ireturn dX10_turn_155 rfl ⟨k0, _, rfl, (r32c rfl), h6⟩
    · have h7 := h3.2 c5
      refine r_iload dX10_turn_145 rfl ?_
      refine r_if_ne (t := 154) dX10_turn_147 rfl hx4  (fun c8 => ?_) (fun c9 => ?_)
      · have h10 := h7.1 c8
        refine r_iconst dX10_turn_154 ?_
        exact r_ireturn dX10_turn_155 rfl ⟨k0, _, rfl, (r32c rfl), h10⟩
      · have h11 := h7.2 c9
        refine r_iconst dX10_turn_150 ?_
        refine r_goto (t := 155) dX10_turn_151 rfl ?_
        exact r_ireturn dX10_turn_155 rfl ⟨k0, _, rfl, (r32c rfl), h11⟩
  · have h12 := h.2 c2
    refine r_iload_n dX10_turn_81 rfl ?_
    refine r_if_ne (t := 101) dX10_turn_82 rfl hx3  (fun c13 => ?_) (fun c14 => ?_)
    · have h15 := h12.1 c13
      exact r_mask [true, false, true, false, true, true] rfl (h15 hx2 hx4 hx5 k0)
    · have h16 := h12.2 c14
      refine r_aload_n dX10_turn_85 rfl ?_
      refine r_getP (a := 80) dX10_turn_86 kf_RX10_30 (zlt hn rfl) sh_73 rfl (k0.1 _ _ _ (zlt hn rfl) p_73_6) ?_
      refine r_bipush dX10_turn_89 rfl ?_
      refine r_iload_n dX10_turn_91 rfl ?_
      refine r_imul dX10_turn_92 ?_
      refine r_iload dX10_turn_93 rfl ?_
      refine r_iadd dX10_turn_95 ?_
      obtain ⟨h17, h18⟩ := h16
      refine r_baloadE dX10_turn_96 (zlt hn rfl) sh_80 h17.1 h17.2 rfl ?_
      refine r_iconst dX10_turn_97 ?_
      refine r_icmp_ne (t := 105) dX10_turn_98 rfl (k0.2.1 _ _) (r32c rfl) (fun c19 => ?_) (fun c20 => ?_)
      · have h21 := h18.1 c19
        refine r_iconst dX10_turn_105 ?_
        exact r_mask [true, false, true, false, true, true] rfl (h21 hx2 hx4 hx5 (r32c rfl) k0)
      · have h22 := h18.2 c20
        exact r_mask [true, false, true, false, true, true] rfl (h22 hx2 hx4 hx5 k0)
theorem b_X10_turn_101 {X : ZX} {d n : Nat} {P : Int → ZSto → Prop} {x2 : Int} {x4 : Int} {x5 : Int} {σ : ZSto} (hn : 104 ≤ n) 
    (h : L_X10_turn_106 X d n (zpI P) x2 x4 x5 1 σ) :
    L_X10_turn_101 X d n (zpI P) x2 x4 x5 σ := by
  intro hx2 hx4 hx5 k0
  unfold Zn
  refine r_iconst dX10_turn_101 ?_
  refine r_goto (t := 106) dX10_turn_102 rfl ?_
  exact r_mask [true, false, true, false, true, true] rfl (h hx2 hx4 hx5 (r32c rfl) k0)
theorem b_X10_turn_106 {X : ZX} {d n : Nat} {P : Int → ZSto → Prop} {x2 : Int} {x4 : Int} {x5 : Int} {x20 : Int} {σ : ZSto} (hn : 104 ≤ n) 
    (h : (¬ x4 = 0 → R32 (x5 + 1) ∧ L_X10_turn_74 X d n (zpI P) x2 x20 1 (x5 + 1) σ) ∧ (x4 = 0 → (0 ≤ (81 * x2) + x5 ∧ (81 * x2) + x5 < 40500) ∧ (¬ gI σ 80 (((81 * x2) + x5).toNat) = 2 → R32 (x5 + 1) ∧ L_X10_turn_74 X d n (zpI P) x2 x20 0 (x5 + 1) σ) ∧ (gI σ 80 (((81 * x2) + x5).toNat) = 2 → R32 (x5 + 1) ∧ L_X10_turn_74 X d n (zpI P) x2 x20 1 (x5 + 1) σ))) :
    L_X10_turn_106 X d n (zpI P) x2 x4 x5 x20 σ := by
  intro hx2 hx4 hx5 hx20 k0
  unfold Zn
  refine r_istore_n dX10_turn_106 rfl rfl ?_
  refine r_iload dX10_turn_107 rfl ?_
  refine r_if_ne (t := 128) dX10_turn_109 rfl hx4  (fun c1 => ?_) (fun c2 => ?_)
  · have h3 := h.1 c1
    refine r_iconst dX10_turn_128 ?_
    refine r_goto (t := 133) dX10_turn_129 rfl ?_
    refine r_istore dX10_turn_133 rfl rfl ?_
    refine r_iinc dX10_turn_135 rfl rfl rfl ?_
    refine r_goto (t := 74) dX10_turn_138 rfl ?_
    obtain ⟨h4, h5⟩ := h3
    exact r_mask [true, false, true, true, true, true] rfl (h5 hx2 hx20 (r32c rfl) h4 k0)
  · have h6 := h.2 c2
    refine r_aload_n dX10_turn_112 rfl ?_
    refine r_getP (a := 80) dX10_turn_113 kf_RX10_30 (zlt hn rfl) sh_73 rfl (k0.1 _ _ _ (zlt hn rfl) p_73_6) ?_
    refine r_bipush dX10_turn_116 rfl ?_
    refine r_iload_n dX10_turn_118 rfl ?_
    refine r_imul dX10_turn_119 ?_
    refine r_iload dX10_turn_120 rfl ?_
    refine r_iadd dX10_turn_122 ?_
    obtain ⟨h7, h8⟩ := h6
    refine r_baloadE dX10_turn_123 (zlt hn rfl) sh_80 h7.1 h7.2 rfl ?_
    refine r_iconst dX10_turn_124 ?_
    refine r_icmp_ne (t := 132) dX10_turn_125 rfl (k0.2.1 _ _) (r32c rfl) (fun c9 => ?_) (fun c10 => ?_)
    · have h11 := h8.1 c9
      refine r_iconst dX10_turn_132 ?_
      refine r_istore dX10_turn_133 rfl rfl ?_
      refine r_iinc dX10_turn_135 rfl rfl rfl ?_
      refine r_goto (t := 74) dX10_turn_138 rfl ?_
      obtain ⟨h12, h13⟩ := h11
      exact r_mask [true, false, true, true, true, true] rfl (h13 hx2 hx20 (r32c rfl) h12 k0)
    · have h14 := h8.2 c10
      refine r_iconst dX10_turn_128 ?_
      refine r_goto (t := 133) dX10_turn_129 rfl ?_
      refine r_istore dX10_turn_133 rfl rfl ?_
      refine r_iinc dX10_turn_135 rfl rfl rfl ?_
      refine r_goto (t := 74) dX10_turn_138 rfl ?_
      obtain ⟨h15, h16⟩ := h14
      exact r_mask [true, false, true, true, true, true] rfl (h16 hx2 hx20 (r32c rfl) h15 k0)
/-! StoneRoomModel.isBarred -/
theorem dX10_isBarred_0 : decode M_X10_isBarred.2.1 0 = .ok (.iload_n 1, 1) := by decide +kernel
theorem dX10_isBarred_1 : decode M_X10_isBarred.2.1 1 = .ok (.ifCond .ge 5, 3) := by decide +kernel
theorem dX10_isBarred_4 : decode M_X10_isBarred.2.1 4 = .ok (.iconst 0, 1) := by decide +kernel
theorem dX10_isBarred_5 : decode M_X10_isBarred.2.1 5 = .ok (.ireturn, 1) := by decide +kernel
theorem dX10_isBarred_6 : decode M_X10_isBarred.2.1 6 = .ok (.aload_n 0, 1) := by decide +kernel
theorem dX10_isBarred_7 : decode M_X10_isBarred.2.1 7 = .ok (.getfield 42, 3) := by decide +kernel
theorem dX10_isBarred_10 : decode M_X10_isBarred.2.1 10 = .ok (.ifCond .ne 41, 3) := by decide +kernel
theorem dX10_isBarred_13 : decode M_X10_isBarred.2.1 13 = .ok (.aload_n 0, 1) := by decide +kernel
theorem dX10_isBarred_14 : decode M_X10_isBarred.2.1 14 = .ok (.getfield 13, 3) := by decide +kernel
theorem dX10_isBarred_17 : decode M_X10_isBarred.2.1 17 = .ok (.iload_n 1, 1) := by decide +kernel
theorem dX10_isBarred_18 : decode M_X10_isBarred.2.1 18 = .ok (.iaload, 1) := by decide +kernel
theorem dX10_isBarred_19 : decode M_X10_isBarred.2.1 19 = .ok (.iconst 1, 1) := by decide +kernel
theorem dX10_isBarred_20 : decode M_X10_isBarred.2.1 20 = .ok (.if_icmp .ne 29, 3) := by decide +kernel
theorem dX10_isBarred_23 : decode M_X10_isBarred.2.1 23 = .ok (.aload_n 0, 1) := by decide +kernel
theorem dX10_isBarred_24 : decode M_X10_isBarred.2.1 24 = .ok (.getfield 7, 3) := by decide +kernel
theorem dX10_isBarred_27 : decode M_X10_isBarred.2.1 27 = .ok (.iload_n 1, 1) := by decide +kernel
theorem dX10_isBarred_28 : decode M_X10_isBarred.2.1 28 = .ok (.iaload, 1) := by decide +kernel
theorem dX10_isBarred_29 : decode M_X10_isBarred.2.1 29 = .ok (.ifCond .lt 20, 3) := by decide +kernel
theorem dX10_isBarred_32 : decode M_X10_isBarred.2.1 32 = .ok (.aload_n 0, 1) := by decide +kernel
theorem dX10_isBarred_33 : decode M_X10_isBarred.2.1 33 = .ok (.aload_n 0, 1) := by decide +kernel
theorem dX10_isBarred_34 : decode M_X10_isBarred.2.1 34 = .ok (.getfield 7, 3) := by decide +kernel
theorem dX10_isBarred_37 : decode M_X10_isBarred.2.1 37 = .ok (.iload_n 1, 1) := by decide +kernel
theorem dX10_isBarred_38 : decode M_X10_isBarred.2.1 38 = .ok (.iaload, 1) := by decide +kernel
theorem dX10_isBarred_39 : decode M_X10_isBarred.2.1 39 = .ok (.invokevirtual 156, 3) := by decide +kernel
theorem dX10_isBarred_42 : decode M_X10_isBarred.2.1 42 = .ok (.ifCond .eq 7, 3) := by decide +kernel
theorem dX10_isBarred_45 : decode M_X10_isBarred.2.1 45 = .ok (.iconst 1, 1) := by decide +kernel
theorem dX10_isBarred_46 : decode M_X10_isBarred.2.1 46 = .ok (.goto 4, 3) := by decide +kernel
theorem dX10_isBarred_49 : decode M_X10_isBarred.2.1 49 = .ok (.iconst 0, 1) := by decide +kernel
theorem dX10_isBarred_50 : decode M_X10_isBarred.2.1 50 = .ok (.ireturn, 1) := by decide +kernel
theorem dX10_isBarred_51 : decode M_X10_isBarred.2.1 51 = .ok (.iload_n 1, 1) := by decide +kernel
theorem dX10_isBarred_52 : decode M_X10_isBarred.2.1 52 = .ok (.istore_n 3, 1) := by decide +kernel
theorem dX10_isBarred_53 : decode M_X10_isBarred.2.1 53 = .ok (.iload_n 3, 1) := by decide +kernel
theorem dX10_isBarred_54 : decode M_X10_isBarred.2.1 54 = .ok (.ifCond .lt 42, 3) := by decide +kernel
theorem dX10_isBarred_57 : decode M_X10_isBarred.2.1 57 = .ok (.aload_n 0, 1) := by decide +kernel
theorem dX10_isBarred_58 : decode M_X10_isBarred.2.1 58 = .ok (.iload_n 3, 1) := by decide +kernel
theorem dX10_isBarred_59 : decode M_X10_isBarred.2.1 59 = .ok (.invokevirtual 156, 3) := by decide +kernel
theorem dX10_isBarred_62 : decode M_X10_isBarred.2.1 62 = .ok (.ifCond .eq 24, 3) := by decide +kernel
theorem dX10_isBarred_65 : decode M_X10_isBarred.2.1 65 = .ok (.aload_n 0, 1) := by decide +kernel
theorem dX10_isBarred_66 : decode M_X10_isBarred.2.1 66 = .ok (.getfield 42, 3) := by decide +kernel
theorem dX10_isBarred_69 : decode M_X10_isBarred.2.1 69 = .ok (.iconst 1, 1) := by decide +kernel
theorem dX10_isBarred_70 : decode M_X10_isBarred.2.1 70 = .ok (.if_icmp .eq 14, 3) := by decide +kernel
theorem dX10_isBarred_73 : decode M_X10_isBarred.2.1 73 = .ok (.aload_n 0, 1) := by decide +kernel
theorem dX10_isBarred_74 : decode M_X10_isBarred.2.1 74 = .ok (.iload_n 3, 1) := by decide +kernel
theorem dX10_isBarred_75 : decode M_X10_isBarred.2.1 75 = .ok (.invokevirtual 160, 3) := by decide +kernel
theorem dX10_isBarred_78 : decode M_X10_isBarred.2.1 78 = .ok (.iconst 3, 1) := by decide +kernel
theorem dX10_isBarred_79 : decode M_X10_isBarred.2.1 79 = .ok (.iload_n 2, 1) := by decide +kernel
theorem dX10_isBarred_80 : decode M_X10_isBarred.2.1 80 = .ok (.isub, 1) := by decide +kernel
theorem dX10_isBarred_81 : decode M_X10_isBarred.2.1 81 = .ok (.if_icmp .ne 5, 3) := by decide +kernel
theorem dX10_isBarred_84 : decode M_X10_isBarred.2.1 84 = .ok (.iconst 1, 1) := by decide +kernel
theorem dX10_isBarred_85 : decode M_X10_isBarred.2.1 85 = .ok (.ireturn, 1) := by decide +kernel
theorem dX10_isBarred_86 : decode M_X10_isBarred.2.1 86 = .ok (.aload_n 0, 1) := by decide +kernel
theorem dX10_isBarred_87 : decode M_X10_isBarred.2.1 87 = .ok (.getfield 7, 3) := by decide +kernel
theorem dX10_isBarred_90 : decode M_X10_isBarred.2.1 90 = .ok (.iload_n 3, 1) := by decide +kernel
theorem dX10_isBarred_91 : decode M_X10_isBarred.2.1 91 = .ok (.iaload, 1) := by decide +kernel
theorem dX10_isBarred_92 : decode M_X10_isBarred.2.1 92 = .ok (.istore_n 3, 1) := by decide +kernel
theorem dX10_isBarred_93 : decode M_X10_isBarred.2.1 93 = .ok (.goto (-40), 3) := by decide +kernel
theorem dX10_isBarred_96 : decode M_X10_isBarred.2.1 96 = .ok (.iconst 0, 1) := by decide +kernel
theorem dX10_isBarred_97 : decode M_X10_isBarred.2.1 97 = .ok (.ireturn, 1) := by decide +kernel
def L_X10_isBarred_53 (X : ZX) (d n : Nat) (P : Option Value → ZSto → Prop) (x2 : Int) (x3 : Int) (σ : ZSto) : Prop := R32 x2 → R32 x3 → ZOk n σ → Zn X M_X10_isBarred d n P 53 [some (.ref (zB X + 73)), none, some (iV x2), some (iV x3)] [] σ
theorem w_X10_isBarred {X : ZX} {d n : Nat} {P : Int → ZSto → Prop} {x1 : Int} {x2 : Int} {σ : ZSto} (hn : 104 ≤ n)  (hx1 : R32 x1) (hx2 : R32 x2)
    (h : (0 ≤ x1 → (¬ gI σ 73 12 = 0 → L_X10_isBarred_53 X d n (zpZ P) x2 x1 σ) ∧ (gI σ 73 12 = 0 → (0 ≤ x1 ∧ x1 < 500) ∧ (¬ gI σ 75 x1.toNat = 1 → P 0 σ) ∧ (gI σ 75 x1.toNat = 1 → (gI σ 74 x1.toNat < 0 → P 0 σ) ∧ (¬ (gI σ 74 x1.toNat < 0) → ZkZ X M_X10_isBoard d n [.ref (zB X + 73), iV (gI σ 74 x1.toNat)] σ (fun v18 σ19 => (v18 = 0 → P 0 σ19) ∧ (¬ (v18 = 0) → P 1 σ19)))))) ∧ (¬ (0 ≤ x1) → P 0 σ)) :
    ZkZ X M_X10_isBarred (d + 1) n [.ref (zB X + 73), iV x1, iV x2] σ P := by
  refine zk_of (ls := [some (.ref (zB X + 73)), some (iV x1), some (iV x2), none]) pl_RX10 (Nat.le_of_ble_eq_true rfl) rfl (fun k0 => ?_)
  unfold Zn
  refine r_iload_n dX10_isBarred_0 rfl ?_
  refine r_if_ge (t := 6) dX10_isBarred_1 rfl hx1  (fun c1 => ?_) (fun c2 => ?_)
  · have h3 := h.1 c1
    refine r_aload_n dX10_isBarred_6 rfl ?_
    refine r_getI dX10_isBarred_7 kf_RX10_42 (zlt hn rfl) sh_73 (Or.inl rfl) rfl ?_
    refine r_if_ne (t := 51) dX10_isBarred_10 rfl (k0.2.1 _ _)  (fun c4 => ?_) (fun c5 => ?_)
    · have h6 := h3.1 c4
      refine r_iload_n dX10_isBarred_51 rfl ?_
      refine r_istore_n dX10_isBarred_52 rfl rfl ?_
      exact r_mask [true, false, true, true] rfl (h6 hx2 hx1 k0)
    · have h7 := h3.2 c5
      refine r_aload_n dX10_isBarred_13 rfl ?_
      refine r_getP (a := 75) dX10_isBarred_14 kf_RX10_13 (zlt hn rfl) sh_73 rfl (k0.1 _ _ _ (zlt hn rfl) p_73_1) ?_
      refine r_iload_n dX10_isBarred_17 rfl ?_
      obtain ⟨h8, h9⟩ := h7
      refine r_ialoadE dX10_isBarred_18 (zlt hn rfl) sh_75 h8.1 h8.2 rfl ?_
      refine r_iconst dX10_isBarred_19 ?_
      refine r_icmp_ne (t := 49) dX10_isBarred_20 rfl (k0.2.1 _ _) (r32c rfl) (fun c10 => ?_) (fun c11 => ?_)
      · have h12 := h9.1 c10
        refine r_iconst dX10_isBarred_49 ?_
        exact r_zreturn dX10_isBarred_50 rfl (Or.inl rfl) ⟨k0, _, rfl, (Or.inl rfl), h12⟩
      · have h13 := h9.2 c11
        refine r_aload_n dX10_isBarred_23 rfl ?_
        refine r_getP (a := 74) dX10_isBarred_24 kf_RX10_7 (zlt hn rfl) sh_73 rfl (k0.1 _ _ _ (zlt hn rfl) p_73_0) ?_
        refine r_iload_n dX10_isBarred_27 rfl ?_
        refine r_ialoadE dX10_isBarred_28 (zlt hn rfl) sh_74 h8.1 h8.2 rfl ?_
        refine r_if_lt (t := 49) dX10_isBarred_29 rfl (k0.2.1 _ _)  (fun c14 => ?_) (fun c15 => ?_)
        · have h16 := h13.1 c14
          refine r_iconst dX10_isBarred_49 ?_
          exact r_zreturn dX10_isBarred_50 rfl (Or.inl rfl) ⟨k0, _, rfl, (Or.inl rfl), h16⟩
        · have h17 := h13.2 c15
          refine r_aload_n dX10_isBarred_32 rfl ?_
          refine r_aload_n dX10_isBarred_33 rfl ?_
          refine r_getP (a := 74) dX10_isBarred_34 kf_RX10_7 (zlt hn rfl) sh_73 rfl (k0.1 _ _ _ (zlt hn rfl) p_73_0) ?_
          refine r_iload_n dX10_isBarred_37 rfl ?_
          refine r_ialoadE dX10_isBarred_38 (zlt hn rfl) sh_74 h8.1 h8.2 rfl ?_
          refine n_callV (N := M_X10_isBoard) (As := [iV (gI σ 74 x1.toNat)]) (st := []) dX10_isBarred_39 mk_X10_isBoard km_RX10_156 kd_X10_isBoard rfl (zlt hn rfl) sh_73 (q := (RX10, TX10, 52)) rfl rfl (zFits_rm d n n n (Nat.le_refl n)) (Nat.le_of_ble_eq_true rfl) rfl k0 h17 ?_
          rintro _ σ19 k20 ⟨v18, rfl, h21, h22⟩
          change Zm _ _ _ _ _ _ 42 _ [iV v18] _
          refine r_if_eq (t := 49) dX10_isBarred_42 rfl (r32_z h21)  (fun c23 => ?_) (fun c24 => ?_)
          · have h25 := h22.1 c23
            refine r_iconst dX10_isBarred_49 ?_
            exact r_zreturn dX10_isBarred_50 rfl (Or.inl rfl) ⟨k20, _, rfl, (Or.inl rfl), h25⟩
          · have h26 := h22.2 c24
            refine r_iconst dX10_isBarred_45 ?_
            refine r_goto (t := 50) dX10_isBarred_46 rfl ?_
            exact r_zreturn dX10_isBarred_50 rfl (Or.inr rfl) ⟨k20, _, rfl, (Or.inr rfl), h26⟩
  · have h27 := h.2 c2
    refine r_iconst dX10_isBarred_4 ?_
    exact r_zreturn dX10_isBarred_5 rfl (Or.inl rfl) ⟨k0, _, rfl, (Or.inl rfl), h27⟩
theorem b_X10_isBarred_53 {X : ZX} {d n : Nat} {P : Int → ZSto → Prop} {x2 : Int} {x3 : Int} {σ : ZSto} (hn : 104 ≤ n) 
    (h : (x3 < 0 → P 0 σ) ∧ (¬ (x3 < 0) → ZkZ X M_X10_isBoard d n [.ref (zB X + 73), iV x3] σ (fun v5 σ6 => (v5 = 0 → (0 ≤ x3 ∧ x3 < 500) ∧ (∀ y15 : Int, y15 = gI σ6 74 x3.toNat → L_X10_isBarred_53 X d n (zpZ P) x2 y15 σ6)) ∧ (¬ (v5 = 0) → (gI σ6 73 12 = 1 → P 1 σ6) ∧ (¬ (gI σ6 73 12 = 1) → ZkI X M_X10_turn d n [.ref (zB X + 73), iV x3] σ6 (fun v23 σ24 => R32 (3 - x2) ∧ (¬ v23 = 3 - x2 → (0 ≤ x3 ∧ x3 < 500) ∧ (∀ y35 : Int, y35 = gI σ24 74 x3.toNat → L_X10_isBarred_53 X d n (zpZ P) x2 y35 σ24)) ∧ (v23 = 3 - x2 → P 1 σ24))))))) :
    L_X10_isBarred_53 X d n (zpZ P) x2 x3 σ := by
  intro hx2 hx3 k0
  unfold Zn
  refine r_iload_n dX10_isBarred_53 rfl ?_
  refine r_if_lt (t := 96) dX10_isBarred_54 rfl hx3  (fun c1 => ?_) (fun c2 => ?_)
  · have h3 := h.1 c1
    refine r_iconst dX10_isBarred_96 ?_
    exact r_zreturn dX10_isBarred_97 rfl (Or.inl rfl) ⟨k0, _, rfl, (Or.inl rfl), h3⟩
  · have h4 := h.2 c2
    refine r_aload_n dX10_isBarred_57 rfl ?_
    refine r_iload_n dX10_isBarred_58 rfl ?_
    refine n_callV (N := M_X10_isBoard) (As := [iV x3]) (st := []) dX10_isBarred_59 mk_X10_isBoard km_RX10_156 kd_X10_isBoard rfl (zlt hn rfl) sh_73 (q := (RX10, TX10, 52)) rfl rfl (zFits_rm d n n n (Nat.le_refl n)) (Nat.le_of_ble_eq_true rfl) rfl k0 h4 ?_
    rintro _ σ6 k7 ⟨v5, rfl, h8, h9⟩
    change Zm _ _ _ _ _ _ 62 _ [iV v5] _
    refine r_if_eq (t := 86) dX10_isBarred_62 rfl (r32_z h8)  (fun c10 => ?_) (fun c11 => ?_)
    · have h12 := h9.1 c10
      refine r_aload_n dX10_isBarred_86 rfl ?_
      refine r_getP (a := 74) dX10_isBarred_87 kf_RX10_7 (zlt hn rfl) sh_73 rfl (k7.1 _ _ _ (zlt hn rfl) p_73_0) ?_
      refine r_iload_n dX10_isBarred_90 rfl ?_
      obtain ⟨h13, h14⟩ := h12
      refine r_ialoadE dX10_isBarred_91 (zlt hn rfl) sh_74 h13.1 h13.2 rfl ?_
      refine r_name (fun y15 e16 => ?_)
      have h17 := h14 y15 e16
      refine r_istore_n dX10_isBarred_92 rfl rfl ?_
      refine r_goto (t := 53) dX10_isBarred_93 rfl ?_
      exact r_mask [true, false, true, true] rfl (h17 hx2 (by rw [e16]; exact (k7.2.1 _ _)) k7)
    · have h18 := h9.2 c11
      refine r_aload_n dX10_isBarred_65 rfl ?_
      refine r_getI dX10_isBarred_66 kf_RX10_42 (zlt hn rfl) sh_73 (Or.inl rfl) rfl ?_
      refine r_iconst dX10_isBarred_69 ?_
      refine r_icmp_eq (t := 84) dX10_isBarred_70 rfl (k7.2.1 _ _) (r32c rfl) (fun c19 => ?_) (fun c20 => ?_)
      · have h21 := h18.1 c19
        refine r_iconst dX10_isBarred_84 ?_
        exact r_zreturn dX10_isBarred_85 rfl (Or.inr rfl) ⟨k7, _, rfl, (Or.inr rfl), h21⟩
      · have h22 := h18.2 c20
        refine r_aload_n dX10_isBarred_73 rfl ?_
        refine r_iload_n dX10_isBarred_74 rfl ?_
        refine n_callV (N := M_X10_turn) (As := [iV x3]) (st := []) dX10_isBarred_75 mk_X10_turn km_RX10_160 kd_X10_turn rfl (zlt hn rfl) sh_73 (q := (RX10, TX10, 52)) rfl rfl (zFits_rm d n n n (Nat.le_refl n)) (Nat.le_of_ble_eq_true rfl) rfl k7 h22 ?_
        rintro _ σ24 k25 ⟨v23, rfl, h26, h27⟩
        change Zm _ _ _ _ _ _ 78 _ [iV v23] _
        refine r_iconst dX10_isBarred_78 ?_
        refine r_iload_n dX10_isBarred_79 rfl ?_
        refine r_isub dX10_isBarred_80 ?_
        obtain ⟨h28, h29⟩ := h27
        refine r_icmp_ne (t := 86) dX10_isBarred_81 rfl h26 h28 (fun c30 => ?_) (fun c31 => ?_)
        · have h32 := h29.1 c30
          refine r_aload_n dX10_isBarred_86 rfl ?_
          refine r_getP (a := 74) dX10_isBarred_87 kf_RX10_7 (zlt hn rfl) sh_73 rfl (k25.1 _ _ _ (zlt hn rfl) p_73_0) ?_
          refine r_iload_n dX10_isBarred_90 rfl ?_
          obtain ⟨h33, h34⟩ := h32
          refine r_ialoadE dX10_isBarred_91 (zlt hn rfl) sh_74 h33.1 h33.2 rfl ?_
          refine r_name (fun y35 e36 => ?_)
          have h37 := h34 y35 e36
          refine r_istore_n dX10_isBarred_92 rfl rfl ?_
          refine r_goto (t := 53) dX10_isBarred_93 rfl ?_
          exact r_mask [true, false, true, true] rfl (h37 hx2 (by rw [e36]; exact (k25.2.1 _ _)) k25)
        · have h38 := h29.2 c31
          refine r_iconst dX10_isBarred_84 ?_
          exact r_zreturn dX10_isBarred_85 rfl (Or.inr rfl) ⟨k25, _, rfl, (Or.inr rfl), h38⟩
/-! StoneRoomModel.why -/
theorem dX10_why_0 : decode M_X10_why.2.1 0 = .ok (.aload_n 0, 1) := by decide +kernel
theorem dX10_why_1 : decode M_X10_why.2.1 1 = .ok (.iload_n 1, 1) := by decide +kernel
theorem dX10_why_2 : decode M_X10_why.2.1 2 = .ok (.invokevirtual 133, 3) := by decide +kernel
theorem dX10_why_5 : decode M_X10_why.2.1 5 = .ok (.aload_n 0, 1) := by decide +kernel
theorem dX10_why_6 : decode M_X10_why.2.1 6 = .ok (.getfield 46, 3) := by decide +kernel
theorem dX10_why_9 : decode M_X10_why.2.1 9 = .ok (.iload_n 2, 1) := by decide +kernel
theorem dX10_why_10 : decode M_X10_why.2.1 10 = .ok (.baload, 1) := by decide +kernel
theorem dX10_why_11 : decode M_X10_why.2.1 11 = .ok (.ifCond .eq 5, 3) := by decide +kernel
theorem dX10_why_14 : decode M_X10_why.2.1 14 = .ok (.iconst 2, 1) := by decide +kernel
theorem dX10_why_15 : decode M_X10_why.2.1 15 = .ok (.ireturn, 1) := by decide +kernel
theorem dX10_why_16 : decode M_X10_why.2.1 16 = .ok (.aload_n 0, 1) := by decide +kernel
theorem dX10_why_17 : decode M_X10_why.2.1 17 = .ok (.iload_n 2, 1) := by decide +kernel
theorem dX10_why_18 : decode M_X10_why.2.1 18 = .ok (.iload_n 3, 1) := by decide +kernel
theorem dX10_why_19 : decode M_X10_why.2.1 19 = .ok (.invokevirtual 163, 3) := by decide +kernel
theorem dX10_why_22 : decode M_X10_why.2.1 22 = .ok (.ifCond .ne 5, 3) := by decide +kernel
theorem dX10_why_25 : decode M_X10_why.2.1 25 = .ok (.iconst 3, 1) := by decide +kernel
theorem dX10_why_26 : decode M_X10_why.2.1 26 = .ok (.ireturn, 1) := by decide +kernel
theorem dX10_why_27 : decode M_X10_why.2.1 27 = .ok (.aload_n 0, 1) := by decide +kernel
theorem dX10_why_28 : decode M_X10_why.2.1 28 = .ok (.iload_n 1, 1) := by decide +kernel
theorem dX10_why_29 : decode M_X10_why.2.1 29 = .ok (.iload_n 3, 1) := by decide +kernel
theorem dX10_why_30 : decode M_X10_why.2.1 30 = .ok (.invokevirtual 167, 3) := by decide +kernel
theorem dX10_why_33 : decode M_X10_why.2.1 33 = .ok (.ifCond .eq 7, 3) := by decide +kernel
theorem dX10_why_36 : decode M_X10_why.2.1 36 = .ok (.iconst 4, 1) := by decide +kernel
theorem dX10_why_37 : decode M_X10_why.2.1 37 = .ok (.goto 4, 3) := by decide +kernel
theorem dX10_why_40 : decode M_X10_why.2.1 40 = .ok (.iconst 0, 1) := by decide +kernel
theorem dX10_why_41 : decode M_X10_why.2.1 41 = .ok (.ireturn, 1) := by decide +kernel
theorem w_X10_why {X : ZX} {d n : Nat} {P : Int → ZSto → Prop} {x1 : Int} {x2 : Int} {x3 : Int} {σ : ZSto} (hn : 104 ≤ n)  (hx1 : R32 x1) (hx2 : R32 x2) (hx3 : R32 x3)
    (h : ZkV X M_X10_load d n [.ref (zB X + 73), iV x1] σ (fun σ2 => (0 ≤ x2 ∧ x2 < 81) ∧ (gI σ2 84 x2.toNat = 0 → ZkZ X M_X10_put d n [.ref (zB X + 73), iV x2, iV x3] σ2 (fun v11 σ12 => (¬ v11 = 0 → ZkZ X M_X10_isBarred d n [.ref (zB X + 73), iV x1, iV x3] σ12 (fun v19 σ20 => (v19 = 0 → P 0 σ20) ∧ (¬ (v19 = 0) → P 4 σ20))) ∧ (v11 = 0 → P 3 σ12))) ∧ (¬ (gI σ2 84 x2.toNat = 0) → P 2 σ2))) :
    ZkI X M_X10_why (d + 1) n [.ref (zB X + 73), iV x1, iV x2, iV x3] σ P := by
  refine zk_of (ls := [some (.ref (zB X + 73)), some (iV x1), some (iV x2), some (iV x3)]) pl_RX10 (Nat.le_of_ble_eq_true rfl) rfl (fun k0 => ?_)
  unfold Zn
  refine r_aload_n dX10_why_0 rfl ?_
  refine r_iload_n dX10_why_1 rfl ?_
  refine n_callV (N := M_X10_load) (As := [iV x1]) (st := []) dX10_why_2 mk_X10_load km_RX10_133 kd_X10_load rfl (zlt hn rfl) sh_73 (q := (RX10, TX10, 52)) rfl rfl (zFits_rm d n n n (Nat.le_refl n)) (Nat.le_of_ble_eq_true rfl) rfl k0 h ?_
  rintro _ σ2 k3 ⟨rfl, h5⟩
  change Zm _ _ _ _ _ _ 5 _ [] _
  refine r_aload_n dX10_why_5 rfl ?_
  refine r_getP (a := 84) dX10_why_6 kf_RX10_46 (zlt hn rfl) sh_73 rfl (k3.1 _ _ _ (zlt hn rfl) p_73_14) ?_
  refine r_iload_n dX10_why_9 rfl ?_
  obtain ⟨h6, h7⟩ := h5
  refine r_baloadE dX10_why_10 (zlt hn rfl) sh_84 h6.1 h6.2 rfl ?_
  refine r_if_eq (t := 16) dX10_why_11 rfl (k3.2.1 _ _)  (fun c8 => ?_) (fun c9 => ?_)
  · have h10 := h7.1 c8
    refine r_aload_n dX10_why_16 rfl ?_
    refine r_iload_n dX10_why_17 rfl ?_
    refine r_iload_n dX10_why_18 rfl ?_
    refine n_callV (N := M_X10_put) (As := [iV x2, iV x3]) (st := []) dX10_why_19 mk_X10_put km_RX10_163 kd_X10_put rfl (zlt hn rfl) sh_73 (q := (RX10, TX10, 52)) rfl rfl (zFits_rm d n n n (Nat.le_refl n)) (Nat.le_of_ble_eq_true rfl) rfl k3 h10 ?_
    rintro _ σ12 k13 ⟨v11, rfl, h14, h15⟩
    change Zm _ _ _ _ _ _ 22 _ [iV v11] _
    refine r_if_ne (t := 27) dX10_why_22 rfl (r32_z h14)  (fun c16 => ?_) (fun c17 => ?_)
    · have h18 := h15.1 c16
      refine r_aload_n dX10_why_27 rfl ?_
      refine r_iload_n dX10_why_28 rfl ?_
      refine r_iload_n dX10_why_29 rfl ?_
      refine n_callV (N := M_X10_isBarred) (As := [iV x1, iV x3]) (st := []) dX10_why_30 mk_X10_isBarred km_RX10_167 kd_X10_isBarred rfl (zlt hn rfl) sh_73 (q := (RX10, TX10, 52)) rfl rfl (zFits_rm d n n n (Nat.le_refl n)) (Nat.le_of_ble_eq_true rfl) rfl k13 h18 ?_
      rintro _ σ20 k21 ⟨v19, rfl, h22, h23⟩
      change Zm _ _ _ _ _ _ 33 _ [iV v19] _
      refine r_if_eq (t := 40) dX10_why_33 rfl (r32_z h22)  (fun c24 => ?_) (fun c25 => ?_)
      · have h26 := h23.1 c24
        refine r_iconst dX10_why_40 ?_
        exact r_ireturn dX10_why_41 rfl ⟨k21, _, rfl, (r32c rfl), h26⟩
      · have h27 := h23.2 c25
        refine r_iconst dX10_why_36 ?_
        refine r_goto (t := 41) dX10_why_37 rfl ?_
        exact r_ireturn dX10_why_41 rfl ⟨k21, _, rfl, (r32c rfl), h27⟩
    · have h28 := h15.2 c17
      refine r_iconst dX10_why_25 ?_
      exact r_ireturn dX10_why_26 rfl ⟨k13, _, rfl, (r32c rfl), h28⟩
  · have h29 := h7.2 c9
    refine r_iconst dX10_why_14 ?_
    exact r_ireturn dX10_why_15 rfl ⟨k3, _, rfl, (r32c rfl), h29⟩
/-! StoneRoomModel.isOver -/
theorem dX10_isOver_0 : decode M_X10_isOver.2.1 0 = .ok (.aload_n 0, 1) := by decide +kernel
theorem dX10_isOver_1 : decode M_X10_isOver.2.1 1 = .ok (.getfield 13, 3) := by decide +kernel
theorem dX10_isOver_4 : decode M_X10_isOver.2.1 4 = .ok (.iload_n 1, 1) := by decide +kernel
theorem dX10_isOver_5 : decode M_X10_isOver.2.1 5 = .ok (.iaload, 1) := by decide +kernel
theorem dX10_isOver_6 : decode M_X10_isOver.2.1 6 = .ok (.iconst 2, 1) := by decide +kernel
theorem dX10_isOver_7 : decode M_X10_isOver.2.1 7 = .ok (.if_icmp .ne 31, 3) := by decide +kernel
theorem dX10_isOver_10 : decode M_X10_isOver.2.1 10 = .ok (.aload_n 0, 1) := by decide +kernel
theorem dX10_isOver_11 : decode M_X10_isOver.2.1 11 = .ok (.getfield 7, 3) := by decide +kernel
theorem dX10_isOver_14 : decode M_X10_isOver.2.1 14 = .ok (.iload_n 1, 1) := by decide +kernel
theorem dX10_isOver_15 : decode M_X10_isOver.2.1 15 = .ok (.iaload, 1) := by decide +kernel
theorem dX10_isOver_16 : decode M_X10_isOver.2.1 16 = .ok (.ifCond .lt 22, 3) := by decide +kernel
theorem dX10_isOver_19 : decode M_X10_isOver.2.1 19 = .ok (.aload_n 0, 1) := by decide +kernel
theorem dX10_isOver_20 : decode M_X10_isOver.2.1 20 = .ok (.getfield 13, 3) := by decide +kernel
theorem dX10_isOver_23 : decode M_X10_isOver.2.1 23 = .ok (.aload_n 0, 1) := by decide +kernel
theorem dX10_isOver_24 : decode M_X10_isOver.2.1 24 = .ok (.getfield 7, 3) := by decide +kernel
theorem dX10_isOver_27 : decode M_X10_isOver.2.1 27 = .ok (.iload_n 1, 1) := by decide +kernel
theorem dX10_isOver_28 : decode M_X10_isOver.2.1 28 = .ok (.iaload, 1) := by decide +kernel
theorem dX10_isOver_29 : decode M_X10_isOver.2.1 29 = .ok (.iaload, 1) := by decide +kernel
theorem dX10_isOver_30 : decode M_X10_isOver.2.1 30 = .ok (.iconst 2, 1) := by decide +kernel
theorem dX10_isOver_31 : decode M_X10_isOver.2.1 31 = .ok (.if_icmp .ne 7, 3) := by decide +kernel
theorem dX10_isOver_34 : decode M_X10_isOver.2.1 34 = .ok (.iconst 1, 1) := by decide +kernel
theorem dX10_isOver_35 : decode M_X10_isOver.2.1 35 = .ok (.goto 4, 3) := by decide +kernel
theorem dX10_isOver_38 : decode M_X10_isOver.2.1 38 = .ok (.iconst 0, 1) := by decide +kernel
theorem dX10_isOver_39 : decode M_X10_isOver.2.1 39 = .ok (.ireturn, 1) := by decide +kernel
theorem w_X10_isOver {X : ZX} {d n : Nat} {P : Int → ZSto → Prop} {x1 : Int} {σ : ZSto} (hn : 104 ≤ n)  (hx1 : R32 x1)
    (h : (0 ≤ x1 ∧ x1 < 500) ∧ (¬ gI σ 75 x1.toNat = 2 → P 0 σ) ∧ (gI σ 75 x1.toNat = 2 → (gI σ 74 x1.toNat < 0 → P 0 σ) ∧ (¬ (gI σ 74 x1.toNat < 0) → (0 ≤ gI σ 74 x1.toNat ∧ gI σ 74 x1.toNat < 500) ∧ (¬ gI σ 75 ((gI σ 74 x1.toNat).toNat) = 2 → P 0 σ) ∧ (gI σ 75 ((gI σ 74 x1.toNat).toNat) = 2 → P 1 σ)))) :
    ZkZ X M_X10_isOver (d + 1) n [.ref (zB X + 73), iV x1] σ P := by
  refine zk_of (ls := [some (.ref (zB X + 73)), some (iV x1)]) pl_RX10 (Nat.le_of_ble_eq_true rfl) rfl (fun k0 => ?_)
  unfold Zn
  refine r_aload_n dX10_isOver_0 rfl ?_
  refine r_getP (a := 75) dX10_isOver_1 kf_RX10_13 (zlt hn rfl) sh_73 rfl (k0.1 _ _ _ (zlt hn rfl) p_73_1) ?_
  refine r_iload_n dX10_isOver_4 rfl ?_
  obtain ⟨h1, h2⟩ := h
  refine r_ialoadE dX10_isOver_5 (zlt hn rfl) sh_75 h1.1 h1.2 rfl ?_
  refine r_iconst dX10_isOver_6 ?_
  refine r_icmp_ne (t := 38) dX10_isOver_7 rfl (k0.2.1 _ _) (r32c rfl) (fun c3 => ?_) (fun c4 => ?_)
  · have h5 := h2.1 c3
    refine r_iconst dX10_isOver_38 ?_
    exact r_zreturn dX10_isOver_39 rfl (Or.inl rfl) ⟨k0, _, rfl, (Or.inl rfl), h5⟩
  · have h6 := h2.2 c4
    refine r_aload_n dX10_isOver_10 rfl ?_
    refine r_getP (a := 74) dX10_isOver_11 kf_RX10_7 (zlt hn rfl) sh_73 rfl (k0.1 _ _ _ (zlt hn rfl) p_73_0) ?_
    refine r_iload_n dX10_isOver_14 rfl ?_
    refine r_ialoadE dX10_isOver_15 (zlt hn rfl) sh_74 h1.1 h1.2 rfl ?_
    refine r_if_lt (t := 38) dX10_isOver_16 rfl (k0.2.1 _ _)  (fun c7 => ?_) (fun c8 => ?_)
    · have h9 := h6.1 c7
      refine r_iconst dX10_isOver_38 ?_
      exact r_zreturn dX10_isOver_39 rfl (Or.inl rfl) ⟨k0, _, rfl, (Or.inl rfl), h9⟩
    · have h10 := h6.2 c8
      refine r_aload_n dX10_isOver_19 rfl ?_
      refine r_getP (a := 75) dX10_isOver_20 kf_RX10_13 (zlt hn rfl) sh_73 rfl (k0.1 _ _ _ (zlt hn rfl) p_73_1) ?_
      refine r_aload_n dX10_isOver_23 rfl ?_
      refine r_getP (a := 74) dX10_isOver_24 kf_RX10_7 (zlt hn rfl) sh_73 rfl (k0.1 _ _ _ (zlt hn rfl) p_73_0) ?_
      refine r_iload_n dX10_isOver_27 rfl ?_
      refine r_ialoadE dX10_isOver_28 (zlt hn rfl) sh_74 h1.1 h1.2 rfl ?_
      obtain ⟨h11, h12⟩ := h10
      refine r_ialoadE dX10_isOver_29 (zlt hn rfl) sh_75 h11.1 h11.2 rfl ?_
      refine r_iconst dX10_isOver_30 ?_
      refine r_icmp_ne (t := 38) dX10_isOver_31 rfl (k0.2.1 _ _) (r32c rfl) (fun c13 => ?_) (fun c14 => ?_)
      · have h15 := h12.1 c13
        refine r_iconst dX10_isOver_38 ?_
        exact r_zreturn dX10_isOver_39 rfl (Or.inl rfl) ⟨k0, _, rfl, (Or.inl rfl), h15⟩
      · have h16 := h12.2 c14
        refine r_iconst dX10_isOver_34 ?_
        refine r_goto (t := 39) dX10_isOver_35 rfl ?_
        exact r_zreturn dX10_isOver_39 rfl (Or.inr rfl) ⟨k0, _, rfl, (Or.inr rfl), h16⟩
/-! StoneRoomModel.child -/
theorem dX10_child_0 : decode M_X10_child.2.1 0 = .ok (.iload_n 1, 1) := by decide +kernel
theorem dX10_child_1 : decode M_X10_child.2.1 1 = .ok (.sipush 250, 3) := by decide +kernel
theorem dX10_child_4 : decode M_X10_child.2.1 4 = .ok (.idiv, 1) := by decide +kernel
theorem dX10_child_5 : decode M_X10_child.2.1 5 = .ok (.istore 4, 2) := by decide +kernel
theorem dX10_child_7 : decode M_X10_child.2.1 7 = .ok (.iload_n 1, 1) := by decide +kernel
theorem dX10_child_8 : decode M_X10_child.2.1 8 = .ok (.iconst 1, 1) := by decide +kernel
theorem dX10_child_9 : decode M_X10_child.2.1 9 = .ok (.iadd, 1) := by decide +kernel
theorem dX10_child_10 : decode M_X10_child.2.1 10 = .ok (.istore 5, 2) := by decide +kernel
theorem dX10_child_12 : decode M_X10_child.2.1 12 = .ok (.iload 5, 2) := by decide +kernel
theorem dX10_child_14 : decode M_X10_child.2.1 14 = .ok (.sipush 250, 3) := by decide +kernel
theorem dX10_child_17 : decode M_X10_child.2.1 17 = .ok (.iload 4, 2) := by decide +kernel
theorem dX10_child_19 : decode M_X10_child.2.1 19 = .ok (.imul, 1) := by decide +kernel
theorem dX10_child_20 : decode M_X10_child.2.1 20 = .ok (.aload_n 0, 1) := by decide +kernel
theorem dX10_child_21 : decode M_X10_child.2.1 21 = .ok (.getfield 33, 3) := by decide +kernel
theorem dX10_child_24 : decode M_X10_child.2.1 24 = .ok (.iload 4, 2) := by decide +kernel
theorem dX10_child_26 : decode M_X10_child.2.1 26 = .ok (.iaload, 1) := by decide +kernel
theorem dX10_child_27 : decode M_X10_child.2.1 27 = .ok (.iadd, 1) := by decide +kernel
theorem dX10_child_28 : decode M_X10_child.2.1 28 = .ok (.if_icmp .ge 55, 3) := by decide +kernel
theorem dX10_child_31 : decode M_X10_child.2.1 31 = .ok (.aload_n 0, 1) := by decide +kernel
theorem dX10_child_32 : decode M_X10_child.2.1 32 = .ok (.getfield 7, 3) := by decide +kernel
theorem dX10_child_35 : decode M_X10_child.2.1 35 = .ok (.iload 5, 2) := by decide +kernel
theorem dX10_child_37 : decode M_X10_child.2.1 37 = .ok (.iaload, 1) := by decide +kernel
theorem dX10_child_38 : decode M_X10_child.2.1 38 = .ok (.iload_n 1, 1) := by decide +kernel
theorem dX10_child_39 : decode M_X10_child.2.1 39 = .ok (.if_icmp .ne 38, 3) := by decide +kernel
theorem dX10_child_42 : decode M_X10_child.2.1 42 = .ok (.aload_n 0, 1) := by decide +kernel
theorem dX10_child_43 : decode M_X10_child.2.1 43 = .ok (.getfield 13, 3) := by decide +kernel
theorem dX10_child_46 : decode M_X10_child.2.1 46 = .ok (.iload 5, 2) := by decide +kernel
theorem dX10_child_48 : decode M_X10_child.2.1 48 = .ok (.iaload, 1) := by decide +kernel
theorem dX10_child_49 : decode M_X10_child.2.1 49 = .ok (.ifCond .eq 28, 3) := by decide +kernel
theorem dX10_child_52 : decode M_X10_child.2.1 52 = .ok (.aload_n 0, 1) := by decide +kernel
theorem dX10_child_53 : decode M_X10_child.2.1 53 = .ok (.getfield 16, 3) := by decide +kernel
theorem dX10_child_56 : decode M_X10_child.2.1 56 = .ok (.iload 5, 2) := by decide +kernel
theorem dX10_child_58 : decode M_X10_child.2.1 58 = .ok (.iaload, 1) := by decide +kernel
theorem dX10_child_59 : decode M_X10_child.2.1 59 = .ok (.iload_n 3, 1) := by decide +kernel
theorem dX10_child_60 : decode M_X10_child.2.1 60 = .ok (.if_icmp .ne 17, 3) := by decide +kernel
theorem dX10_child_63 : decode M_X10_child.2.1 63 = .ok (.aload_n 0, 1) := by decide +kernel
theorem dX10_child_64 : decode M_X10_child.2.1 64 = .ok (.getfield 19, 3) := by decide +kernel
theorem dX10_child_67 : decode M_X10_child.2.1 67 = .ok (.iload 5, 2) := by decide +kernel
theorem dX10_child_69 : decode M_X10_child.2.1 69 = .ok (.iaload, 1) := by decide +kernel
theorem dX10_child_70 : decode M_X10_child.2.1 70 = .ok (.iload_n 2, 1) := by decide +kernel
theorem dX10_child_71 : decode M_X10_child.2.1 71 = .ok (.if_icmp .ne 6, 3) := by decide +kernel
theorem dX10_child_74 : decode M_X10_child.2.1 74 = .ok (.iload 5, 2) := by decide +kernel
theorem dX10_child_76 : decode M_X10_child.2.1 76 = .ok (.ireturn, 1) := by decide +kernel
theorem dX10_child_77 : decode M_X10_child.2.1 77 = .ok (.iinc 5 1, 3) := by decide +kernel
theorem dX10_child_80 : decode M_X10_child.2.1 80 = .ok (.goto (-68), 3) := by decide +kernel
theorem dX10_child_83 : decode M_X10_child.2.1 83 = .ok (.iconst (-1), 1) := by decide +kernel
theorem dX10_child_84 : decode M_X10_child.2.1 84 = .ok (.ireturn, 1) := by decide +kernel
def L_X10_child_12 (X : ZX) (d n : Nat) (P : Option Value → ZSto → Prop) (x1 : Int) (x2 : Int) (x3 : Int) (x4 : Int) (x5 : Int) (σ : ZSto) : Prop := R32 x1 → R32 x2 → R32 x3 → R32 x4 → R32 x5 → ZOk n σ → Zn X M_X10_child d n P 12 [some (.ref (zB X + 73)), some (iV x1), some (iV x2), some (iV x3), some (iV x4), some (iV x5)] [] σ
theorem w_X10_child {X : ZX} {d n : Nat} {P : Int → ZSto → Prop} {x1 : Int} {x2 : Int} {x3 : Int} {σ : ZSto} (hn : 104 ≤ n)  (hx1 : R32 x1) (hx2 : R32 x2) (hx3 : R32 x3)
    (h : (0 ≤ x1 ∧ x1 < 2147483648) ∧ R32 (x1 / 250) ∧ R32 (x1 + 1) ∧ L_X10_child_12 X d n (zpI P) x1 x2 x3 (x1 / 250) (x1 + 1) σ) :
    ZkI X M_X10_child (d + 1) n [.ref (zB X + 73), iV x1, iV x2, iV x3] σ P := by
  refine zk_of (ls := [some (.ref (zB X + 73)), some (iV x1), some (iV x2), some (iV x3), none, none]) pl_RX10 (Nat.le_of_ble_eq_true rfl) rfl (fun k0 => ?_)
  unfold Zn
  refine r_iload_n dX10_child_0 rfl ?_
  refine r_sipush dX10_child_1 rfl ?_
  obtain ⟨h1, h2⟩ := h
  refine r_idiv dX10_child_4 h1.1 h1.2 (by decide) (by decide) ?_
  refine r_istore dX10_child_5 rfl rfl ?_
  refine r_iload_n dX10_child_7 rfl ?_
  refine r_iconst dX10_child_8 ?_
  refine r_iadd dX10_child_9 ?_
  refine r_istore dX10_child_10 rfl rfl ?_
  obtain ⟨h3, h4⟩ := h2
  obtain ⟨h5, h6⟩ := h4
  exact r_mask [true, true, true, true, true, true] rfl (h6 hx1 hx2 hx3 h3 h5 k0)
theorem b_X10_child_12 {X : ZX} {d n : Nat} {P : Int → ZSto → Prop} {x1 : Int} {x2 : Int} {x3 : Int} {x4 : Int} {x5 : Int} {σ : ZSto} (hn : 104 ≤ n) 
    (h : (0 ≤ x4 ∧ x4 < 2) ∧ R32 ((250 * x4) + (gI σ 81 x4.toNat)) ∧ ((250 * x4) + (gI σ 81 x4.toNat) ≤ x5 → P ((-1)) σ) ∧ (¬ ((250 * x4) + (gI σ 81 x4.toNat) ≤ x5) → (0 ≤ x5 ∧ x5 < 500) ∧ (¬ gI σ 74 x5.toNat = x1 → R32 (x5 + 1) ∧ L_X10_child_12 X d n (zpI P) x1 x2 x3 x4 (x5 + 1) σ) ∧ (gI σ 74 x5.toNat = x1 → (gI σ 75 x5.toNat = 0 → R32 (x5 + 1) ∧ L_X10_child_12 X d n (zpI P) x1 x2 x3 x4 (x5 + 1) σ) ∧ (¬ (gI σ 75 x5.toNat = 0) → (¬ gI σ 76 x5.toNat = x3 → R32 (x5 + 1) ∧ L_X10_child_12 X d n (zpI P) x1 x2 x3 x4 (x5 + 1) σ) ∧ (gI σ 76 x5.toNat = x3 → (¬ gI σ 77 x5.toNat = x2 → R32 (x5 + 1) ∧ L_X10_child_12 X d n (zpI P) x1 x2 x3 x4 (x5 + 1) σ) ∧ (gI σ 77 x5.toNat = x2 → P x5 σ)))))) :
    L_X10_child_12 X d n (zpI P) x1 x2 x3 x4 x5 σ := by
  intro hx1 hx2 hx3 hx4 hx5 k0
  unfold Zn
  refine r_iload dX10_child_12 rfl ?_
  refine r_sipush dX10_child_14 rfl ?_
  refine r_iload dX10_child_17 rfl ?_
  refine r_imul dX10_child_19 ?_
  refine r_aload_n dX10_child_20 rfl ?_
  refine r_getP (a := 81) dX10_child_21 kf_RX10_33 (zlt hn rfl) sh_73 rfl (k0.1 _ _ _ (zlt hn rfl) p_73_7) ?_
  refine r_iload dX10_child_24 rfl ?_
  obtain ⟨h1, h2⟩ := h
  refine r_ialoadE dX10_child_26 (zlt hn rfl) sh_81 h1.1 h1.2 rfl ?_
  refine r_iadd dX10_child_27 ?_
  obtain ⟨h3, h4⟩ := h2
  refine r_icmp_ge (t := 83) dX10_child_28 rfl hx5 h3 (fun c5 => ?_) (fun c6 => ?_)
  · have h7 := h4.1 c5
    refine r_iconst dX10_child_83 ?_
    exact r_ireturn dX10_child_84 rfl ⟨k0, _, rfl, (r32c rfl), h7⟩
  · have h8 := h4.2 c6
    refine r_aload_n dX10_child_31 rfl ?_
    refine r_getP (a := 74) dX10_child_32 kf_RX10_7 (zlt hn rfl) sh_73 rfl (k0.1 _ _ _ (zlt hn rfl) p_73_0) ?_
    refine r_iload dX10_child_35 rfl ?_
    obtain ⟨h9, h10⟩ := h8
    refine r_ialoadE dX10_child_37 (zlt hn rfl) sh_74 h9.1 h9.2 rfl ?_
    refine r_iload_n dX10_child_38 rfl ?_
    refine r_icmp_ne (t := 77) dX10_child_39 rfl (k0.2.1 _ _) hx1 (fun c11 => ?_) (fun c12 => ?_)
    · have h13 := h10.1 c11
      refine r_iinc dX10_child_77 rfl rfl rfl ?_
      refine r_goto (t := 12) dX10_child_80 rfl ?_
      obtain ⟨h14, h15⟩ := h13
      exact r_mask [true, true, true, true, true, true] rfl (h15 hx1 hx2 hx3 hx4 h14 k0)
    · have h16 := h10.2 c12
      refine r_aload_n dX10_child_42 rfl ?_
      refine r_getP (a := 75) dX10_child_43 kf_RX10_13 (zlt hn rfl) sh_73 rfl (k0.1 _ _ _ (zlt hn rfl) p_73_1) ?_
      refine r_iload dX10_child_46 rfl ?_
      refine r_ialoadE dX10_child_48 (zlt hn rfl) sh_75 h9.1 h9.2 rfl ?_
      refine r_if_eq (t := 77) dX10_child_49 rfl (k0.2.1 _ _)  (fun c17 => ?_) (fun c18 => ?_)
      · have h19 := h16.1 c17
        refine r_iinc dX10_child_77 rfl rfl rfl ?_
        refine r_goto (t := 12) dX10_child_80 rfl ?_
        obtain ⟨h20, h21⟩ := h19
        exact r_mask [true, true, true, true, true, true] rfl (h21 hx1 hx2 hx3 hx4 h20 k0)
      · have h22 := h16.2 c18
        refine r_aload_n dX10_child_52 rfl ?_
        refine r_getP (a := 76) dX10_child_53 kf_RX10_16 (zlt hn rfl) sh_73 rfl (k0.1 _ _ _ (zlt hn rfl) p_73_2) ?_
        refine r_iload dX10_child_56 rfl ?_
        refine r_ialoadE dX10_child_58 (zlt hn rfl) sh_76 h9.1 h9.2 rfl ?_
        refine r_iload_n dX10_child_59 rfl ?_
        refine r_icmp_ne (t := 77) dX10_child_60 rfl (k0.2.1 _ _) hx3 (fun c23 => ?_) (fun c24 => ?_)
        · have h25 := h22.1 c23
          refine r_iinc dX10_child_77 rfl rfl rfl ?_
          refine r_goto (t := 12) dX10_child_80 rfl ?_
          obtain ⟨h26, h27⟩ := h25
          exact r_mask [true, true, true, true, true, true] rfl (h27 hx1 hx2 hx3 hx4 h26 k0)
        · have h28 := h22.2 c24
          refine r_aload_n dX10_child_63 rfl ?_
          refine r_getP (a := 77) dX10_child_64 kf_RX10_19 (zlt hn rfl) sh_73 rfl (k0.1 _ _ _ (zlt hn rfl) p_73_3) ?_
          refine r_iload dX10_child_67 rfl ?_
          refine r_ialoadE dX10_child_69 (zlt hn rfl) sh_77 h9.1 h9.2 rfl ?_
          refine r_iload_n dX10_child_70 rfl ?_
          refine r_icmp_ne (t := 77) dX10_child_71 rfl (k0.2.1 _ _) hx2 (fun c29 => ?_) (fun c30 => ?_)
          · have h31 := h28.1 c29
            refine r_iinc dX10_child_77 rfl rfl rfl ?_
            refine r_goto (t := 12) dX10_child_80 rfl ?_
            obtain ⟨h32, h33⟩ := h31
            exact r_mask [true, true, true, true, true, true] rfl (h33 hx1 hx2 hx3 hx4 h32 k0)
          · have h34 := h28.2 c30
            refine r_iload dX10_child_74 rfl ?_
            exact r_ireturn dX10_child_76 rfl ⟨k0, _, rfl, hx5, h34⟩
/-! StoneRoomModel.status -/
theorem dX10_status_0 : decode M_X10_status.2.1 0 = .ok (.aload_n 0, 1) := by decide +kernel
theorem dX10_status_1 : decode M_X10_status.2.1 1 = .ok (.aload_n 0, 1) := by decide +kernel
theorem dX10_status_2 : decode M_X10_status.2.1 2 = .ok (.getfield 36, 3) := by decide +kernel
theorem dX10_status_5 : decode M_X10_status.2.1 5 = .ok (.aload_n 0, 1) := by decide +kernel
theorem dX10_status_6 : decode M_X10_status.2.1 6 = .ok (.getfield 170, 3) := by decide +kernel
theorem dX10_status_9 : decode M_X10_status.2.1 9 = .ok (.iaload, 1) := by decide +kernel
theorem dX10_status_10 : decode M_X10_status.2.1 10 = .ok (.putfield 139, 3) := by decide +kernel
theorem dX10_status_13 : decode M_X10_status.2.1 13 = .ok (.aload_n 0, 1) := by decide +kernel
theorem dX10_status_14 : decode M_X10_status.2.1 14 = .ok (.aload_n 0, 1) := by decide +kernel
theorem dX10_status_15 : decode M_X10_status.2.1 15 = .ok (.getfield 173, 3) := by decide +kernel
theorem dX10_status_18 : decode M_X10_status.2.1 18 = .ok (.invokevirtual 160, 3) := by decide +kernel
theorem dX10_status_21 : decode M_X10_status.2.1 21 = .ok (.istore_n 2, 1) := by decide +kernel
theorem dX10_status_22 : decode M_X10_status.2.1 22 = .ok (.iload_n 1, 1) := by decide +kernel
theorem dX10_status_23 : decode M_X10_status.2.1 23 = .ok (.iconst (-1), 1) := by decide +kernel
theorem dX10_status_24 : decode M_X10_status.2.1 24 = .ok (.if_icmp .eq 39, 3) := by decide +kernel
theorem dX10_status_27 : decode M_X10_status.2.1 27 = .ok (.iload_n 1, 1) := by decide +kernel
theorem dX10_status_28 : decode M_X10_status.2.1 28 = .ok (.ifCond .lt 16, 3) := by decide +kernel
theorem dX10_status_31 : decode M_X10_status.2.1 31 = .ok (.iload_n 1, 1) := by decide +kernel
theorem dX10_status_32 : decode M_X10_status.2.1 32 = .ok (.aload_n 0, 1) := by decide +kernel
theorem dX10_status_33 : decode M_X10_status.2.1 33 = .ok (.getfield 139, 3) := by decide +kernel
theorem dX10_status_36 : decode M_X10_status.2.1 36 = .ok (.aload_n 0, 1) := by decide +kernel
theorem dX10_status_37 : decode M_X10_status.2.1 37 = .ok (.getfield 139, 3) := by decide +kernel
theorem dX10_status_40 : decode M_X10_status.2.1 40 = .ok (.imul, 1) := by decide +kernel
theorem dX10_status_41 : decode M_X10_status.2.1 41 = .ok (.if_icmp .lt 5, 3) := by decide +kernel
theorem dX10_status_44 : decode M_X10_status.2.1 44 = .ok (.iconst 1, 1) := by decide +kernel
theorem dX10_status_45 : decode M_X10_status.2.1 45 = .ok (.ireturn, 1) := by decide +kernel
theorem dX10_status_46 : decode M_X10_status.2.1 46 = .ok (.aload_n 0, 1) := by decide +kernel
theorem dX10_status_47 : decode M_X10_status.2.1 47 = .ok (.aload_n 0, 1) := by decide +kernel
theorem dX10_status_48 : decode M_X10_status.2.1 48 = .ok (.getfield 173, 3) := by decide +kernel
theorem dX10_status_51 : decode M_X10_status.2.1 51 = .ok (.iload_n 1, 1) := by decide +kernel
theorem dX10_status_52 : decode M_X10_status.2.1 52 = .ok (.iload_n 2, 1) := by decide +kernel
theorem dX10_status_53 : decode M_X10_status.2.1 53 = .ok (.invokevirtual 176, 3) := by decide +kernel
theorem dX10_status_56 : decode M_X10_status.2.1 56 = .ok (.istore_n 3, 1) := by decide +kernel
theorem dX10_status_57 : decode M_X10_status.2.1 57 = .ok (.iload_n 3, 1) := by decide +kernel
theorem dX10_status_58 : decode M_X10_status.2.1 58 = .ok (.ifCond .le 5, 3) := by decide +kernel
theorem dX10_status_61 : decode M_X10_status.2.1 61 = .ok (.iload_n 3, 1) := by decide +kernel
theorem dX10_status_62 : decode M_X10_status.2.1 62 = .ok (.ireturn, 1) := by decide +kernel
theorem dX10_status_63 : decode M_X10_status.2.1 63 = .ok (.aload_n 0, 1) := by decide +kernel
theorem dX10_status_64 : decode M_X10_status.2.1 64 = .ok (.aload_n 0, 1) := by decide +kernel
theorem dX10_status_65 : decode M_X10_status.2.1 65 = .ok (.getfield 173, 3) := by decide +kernel
theorem dX10_status_68 : decode M_X10_status.2.1 68 = .ok (.invokevirtual 180, 3) := by decide +kernel
theorem dX10_status_71 : decode M_X10_status.2.1 71 = .ok (.ifCond .eq 5, 3) := by decide +kernel
theorem dX10_status_74 : decode M_X10_status.2.1 74 = .ok (.iconst 5, 1) := by decide +kernel
theorem dX10_status_75 : decode M_X10_status.2.1 75 = .ok (.ireturn, 1) := by decide +kernel
theorem dX10_status_76 : decode M_X10_status.2.1 76 = .ok (.aload_n 0, 1) := by decide +kernel
theorem dX10_status_77 : decode M_X10_status.2.1 77 = .ok (.getfield 33, 3) := by decide +kernel
theorem dX10_status_80 : decode M_X10_status.2.1 80 = .ok (.aload_n 0, 1) := by decide +kernel
theorem dX10_status_81 : decode M_X10_status.2.1 81 = .ok (.getfield 170, 3) := by decide +kernel
theorem dX10_status_84 : decode M_X10_status.2.1 84 = .ok (.iaload, 1) := by decide +kernel
theorem dX10_status_85 : decode M_X10_status.2.1 85 = .ok (.sipush 250, 3) := by decide +kernel
theorem dX10_status_88 : decode M_X10_status.2.1 88 = .ok (.if_icmp .ne 21, 3) := by decide +kernel
theorem dX10_status_91 : decode M_X10_status.2.1 91 = .ok (.aload_n 0, 1) := by decide +kernel
theorem dX10_status_92 : decode M_X10_status.2.1 92 = .ok (.aload_n 0, 1) := by decide +kernel
theorem dX10_status_93 : decode M_X10_status.2.1 93 = .ok (.getfield 173, 3) := by decide +kernel
theorem dX10_status_96 : decode M_X10_status.2.1 96 = .ok (.iload_n 1, 1) := by decide +kernel
theorem dX10_status_97 : decode M_X10_status.2.1 97 = .ok (.iload_n 2, 1) := by decide +kernel
theorem dX10_status_98 : decode M_X10_status.2.1 98 = .ok (.invokevirtual 183, 3) := by decide +kernel
theorem dX10_status_101 : decode M_X10_status.2.1 101 = .ok (.ifCond .ge 8, 3) := by decide +kernel
theorem dX10_status_104 : decode M_X10_status.2.1 104 = .ok (.bipush 6, 2) := by decide +kernel
theorem dX10_status_106 : decode M_X10_status.2.1 106 = .ok (.goto 4, 3) := by decide +kernel
theorem dX10_status_109 : decode M_X10_status.2.1 109 = .ok (.iconst 0, 1) := by decide +kernel
theorem dX10_status_110 : decode M_X10_status.2.1 110 = .ok (.ireturn, 1) := by decide +kernel
def L_X10_status_63 (X : ZX) (d n : Nat) (P : Option Value → ZSto → Prop) (x1 : Int) (x2 : Int) (σ : ZSto) : Prop := R32 x1 → R32 x2 → ZOk n σ → Zn X M_X10_status d n P 63 [some (.ref (zB X + 73)), some (iV x1), some (iV x2), none] [] σ
theorem w_X10_status {X : ZX} {d n : Nat} {P : Int → ZSto → Prop} {x1 : Int} {σ : ZSto} (hn : 104 ≤ n)  (hx1 : R32 x1)
    (h : (0 ≤ gI σ 73 10 ∧ gI σ 73 10 < 2) ∧ ZkI X M_X10_turn d n [.ref (zB X + 73), iV (gI σ 73 11)] (sI σ 73 13 (gI σ 82 ((gI σ 73 10).toNat))) (fun v4 σ5 => (x1 = (-1) → L_X10_status_63 X d n (zpI P) x1 v4 σ5) ∧ (¬ (x1 = (-1)) → (x1 < 0 → P 1 σ5) ∧ (¬ (x1 < 0) → R32 ((gI σ5 73 13) * (gI σ5 73 13)) ∧ (x1 < (gI σ5 73 13) * (gI σ5 73 13) → ZkI X M_X10_why d n [.ref (zB X + 73), iV (gI σ5 73 11), iV x1, iV v4] σ5 (fun v22 σ23 => (v22 ≤ 0 → L_X10_status_63 X d n (zpI P) x1 v4 σ23) ∧ (¬ (v22 ≤ 0) → P v22 σ23))) ∧ (¬ (x1 < (gI σ5 73 13) * (gI σ5 73 13)) → P 1 σ5))))) :
    ZkI X M_X10_status (d + 1) n [.ref (zB X + 73), iV x1] σ P := by
  refine zk_of (ls := [some (.ref (zB X + 73)), some (iV x1), none, none]) pl_RX10 (Nat.le_of_ble_eq_true rfl) rfl (fun k0 => ?_)
  unfold Zn
  refine r_aload_n dX10_status_0 rfl ?_
  refine r_aload_n dX10_status_1 rfl ?_
  refine r_getP (a := 82) dX10_status_2 kf_RX10_36 (zlt hn rfl) sh_73 rfl (k0.1 _ _ _ (zlt hn rfl) p_73_8) ?_
  refine r_aload_n dX10_status_5 rfl ?_
  refine r_getI dX10_status_6 kf_RX10_170 (zlt hn rfl) sh_73 (Or.inl rfl) rfl ?_
  obtain ⟨h1, h2⟩ := h
  refine r_ialoadE dX10_status_9 (zlt hn rfl) sh_82 h1.1 h1.2 rfl ?_
  refine r_putI dX10_status_10 kf_RX10_139 (zlt hn rfl) sh_73 rfl (Or.inl rfl) ?_
  have k3 := zok_o (i := 13) (x := gI σ 82 ((gI σ 73 10).toNat)) k0 sh_73 (k0.2.1 _ _)
  refine r_aload_n dX10_status_13 rfl ?_
  refine r_aload_n dX10_status_14 rfl ?_
  refine r_getI dX10_status_15 kf_RX10_173 (zlt hn rfl) sh_73 (Or.inl rfl) (gI_f (by decide)) ?_
  refine n_callV (N := M_X10_turn) (As := [iV (gI σ 73 11)]) (st := []) dX10_status_18 mk_X10_turn km_RX10_160 kd_X10_turn rfl (zlt hn rfl) sh_73 (q := (RX10, TX10, 52)) rfl rfl (zFits_rm d n n n (Nat.le_refl n)) (Nat.le_of_ble_eq_true rfl) rfl k3 h2 ?_
  rintro _ σ5 k6 ⟨v4, rfl, h7, h8⟩
  change Zm _ _ _ _ _ _ 21 _ [iV v4] _
  refine r_istore_n dX10_status_21 rfl rfl ?_
  refine r_iload_n dX10_status_22 rfl ?_
  refine r_iconst dX10_status_23 ?_
  refine r_icmp_eq (t := 63) dX10_status_24 rfl hx1 (r32c rfl) (fun c9 => ?_) (fun c10 => ?_)
  · have h11 := h8.1 c9
    exact r_mask [true, true, true, false] rfl (h11 hx1 h7 k6)
  · have h12 := h8.2 c10
    refine r_iload_n dX10_status_27 rfl ?_
    refine r_if_lt (t := 44) dX10_status_28 rfl hx1  (fun c13 => ?_) (fun c14 => ?_)
    · have h15 := h12.1 c13
      refine r_iconst dX10_status_44 ?_
      exact r_ireturn dX10_status_45 rfl ⟨k6, _, rfl, (r32c rfl), h15⟩
    · have h16 := h12.2 c14
      refine r_iload_n dX10_status_31 rfl ?_
      refine r_aload_n dX10_status_32 rfl ?_
      refine r_getI dX10_status_33 kf_RX10_139 (zlt hn rfl) sh_73 (Or.inl rfl) rfl ?_
      refine r_aload_n dX10_status_36 rfl ?_
      refine r_getI dX10_status_37 kf_RX10_139 (zlt hn rfl) sh_73 (Or.inl rfl) rfl ?_
      refine r_imul dX10_status_40 ?_
      obtain ⟨h17, h18⟩ := h16
      refine r_icmp_lt (t := 46) dX10_status_41 rfl hx1 h17 (fun c19 => ?_) (fun c20 => ?_)
      · have h21 := h18.1 c19
        refine r_aload_n dX10_status_46 rfl ?_
        refine r_aload_n dX10_status_47 rfl ?_
        refine r_getI dX10_status_48 kf_RX10_173 (zlt hn rfl) sh_73 (Or.inl rfl) rfl ?_
        refine r_iload_n dX10_status_51 rfl ?_
        refine r_iload_n dX10_status_52 rfl ?_
        refine n_callV (N := M_X10_why) (As := [iV (gI σ5 73 11), iV x1, iV v4]) (st := []) dX10_status_53 mk_X10_why km_RX10_176 kd_X10_why rfl (zlt hn rfl) sh_73 (q := (RX10, TX10, 52)) rfl rfl (zFits_rm d n n n (Nat.le_refl n)) (Nat.le_of_ble_eq_true rfl) rfl k6 h21 ?_
        rintro _ σ23 k24 ⟨v22, rfl, h25, h26⟩
        change Zm _ _ _ _ _ _ 56 _ [iV v22] _
        refine r_istore_n dX10_status_56 rfl rfl ?_
        refine r_iload_n dX10_status_57 rfl ?_
        refine r_if_le (t := 63) dX10_status_58 rfl h25  (fun c27 => ?_) (fun c28 => ?_)
        · have h29 := h26.1 c27
          exact r_mask [true, true, true, false] rfl (h29 hx1 h7 k24)
        · have h30 := h26.2 c28
          refine r_iload_n dX10_status_61 rfl ?_
          exact r_ireturn dX10_status_62 rfl ⟨k24, _, rfl, h25, h30⟩
      · have h31 := h18.2 c20
        refine r_iconst dX10_status_44 ?_
        exact r_ireturn dX10_status_45 rfl ⟨k6, _, rfl, (r32c rfl), h31⟩
theorem b_X10_status_63 {X : ZX} {d n : Nat} {P : Int → ZSto → Prop} {x1 : Int} {x2 : Int} {σ : ZSto} (hn : 104 ≤ n) 
    (h : ZkZ X M_X10_isOver d n [.ref (zB X + 73), iV (gI σ 73 11)] σ (fun v1 σ2 => (v1 = 0 → (0 ≤ gI σ2 73 10 ∧ gI σ2 73 10 < 2) ∧ (¬ gI σ2 81 ((gI σ2 73 10).toNat) = 250 → P 0 σ2) ∧ (gI σ2 81 ((gI σ2 73 10).toNat) = 250 → ZkI X M_X10_child d n [.ref (zB X + 73), iV (gI σ2 73 11), iV x1, iV x2] σ2 (fun v15 σ16 => (0 ≤ v15 → P 0 σ16) ∧ (¬ (0 ≤ v15) → P 6 σ16)))) ∧ (¬ (v1 = 0) → P 5 σ2))) :
    L_X10_status_63 X d n (zpI P) x1 x2 σ := by
  intro hx1 hx2 k0
  unfold Zn
  refine r_aload_n dX10_status_63 rfl ?_
  refine r_aload_n dX10_status_64 rfl ?_
  refine r_getI dX10_status_65 kf_RX10_173 (zlt hn rfl) sh_73 (Or.inl rfl) rfl ?_
  refine n_callV (N := M_X10_isOver) (As := [iV (gI σ 73 11)]) (st := []) dX10_status_68 mk_X10_isOver km_RX10_180 kd_X10_isOver rfl (zlt hn rfl) sh_73 (q := (RX10, TX10, 52)) rfl rfl (zFits_rm d n n n (Nat.le_refl n)) (Nat.le_of_ble_eq_true rfl) rfl k0 h ?_
  rintro _ σ2 k3 ⟨v1, rfl, h4, h5⟩
  change Zm _ _ _ _ _ _ 71 _ [iV v1] _
  refine r_if_eq (t := 76) dX10_status_71 rfl (r32_z h4)  (fun c6 => ?_) (fun c7 => ?_)
  · have h8 := h5.1 c6
    refine r_aload_n dX10_status_76 rfl ?_
    refine r_getP (a := 81) dX10_status_77 kf_RX10_33 (zlt hn rfl) sh_73 rfl (k3.1 _ _ _ (zlt hn rfl) p_73_7) ?_
    refine r_aload_n dX10_status_80 rfl ?_
    refine r_getI dX10_status_81 kf_RX10_170 (zlt hn rfl) sh_73 (Or.inl rfl) rfl ?_
    obtain ⟨h9, h10⟩ := h8
    refine r_ialoadE dX10_status_84 (zlt hn rfl) sh_81 h9.1 h9.2 rfl ?_
    refine r_sipush dX10_status_85 rfl ?_
    refine r_icmp_ne (t := 109) dX10_status_88 rfl (k3.2.1 _ _) (r32c rfl) (fun c11 => ?_) (fun c12 => ?_)
    · have h13 := h10.1 c11
      refine r_iconst dX10_status_109 ?_
      exact r_ireturn dX10_status_110 rfl ⟨k3, _, rfl, (r32c rfl), h13⟩
    · have h14 := h10.2 c12
      refine r_aload_n dX10_status_91 rfl ?_
      refine r_aload_n dX10_status_92 rfl ?_
      refine r_getI dX10_status_93 kf_RX10_173 (zlt hn rfl) sh_73 (Or.inl rfl) rfl ?_
      refine r_iload_n dX10_status_96 rfl ?_
      refine r_iload_n dX10_status_97 rfl ?_
      refine n_callV (N := M_X10_child) (As := [iV (gI σ2 73 11), iV x1, iV x2]) (st := []) dX10_status_98 mk_X10_child km_RX10_183 kd_X10_child rfl (zlt hn rfl) sh_73 (q := (RX10, TX10, 52)) rfl rfl (zFits_rm d n n n (Nat.le_refl n)) (Nat.le_of_ble_eq_true rfl) rfl k3 h14 ?_
      rintro _ σ16 k17 ⟨v15, rfl, h18, h19⟩
      change Zm _ _ _ _ _ _ 101 _ [iV v15] _
      refine r_if_ge (t := 109) dX10_status_101 rfl h18  (fun c20 => ?_) (fun c21 => ?_)
      · have h22 := h19.1 c20
        refine r_iconst dX10_status_109 ?_
        exact r_ireturn dX10_status_110 rfl ⟨k17, _, rfl, (r32c rfl), h22⟩
      · have h23 := h19.2 c21
        refine r_bipush dX10_status_104 rfl ?_
        refine r_goto (t := 110) dX10_status_106 rfl ?_
        exact r_ireturn dX10_status_110 rfl ⟨k17, _, rfl, (r32c rfl), h23⟩
  · have h24 := h5.2 c7
    refine r_iconst dX10_status_74 ?_
    exact r_ireturn dX10_status_75 rfl ⟨k3, _, rfl, (r32c rfl), h24⟩
/-! StoneRoomModel.begin -/
theorem dX10_begin_0 : decode M_X10_begin.2.1 0 = .ok (.iload_n 1, 1) := by decide +kernel
theorem dX10_begin_1 : decode M_X10_begin.2.1 1 = .ok (.iconst 3, 1) := by decide +kernel
theorem dX10_begin_2 : decode M_X10_begin.2.1 2 = .ok (.if_icmp .lt 23, 3) := by decide +kernel
theorem dX10_begin_5 : decode M_X10_begin.2.1 5 = .ok (.iload_n 1, 1) := by decide +kernel
theorem dX10_begin_6 : decode M_X10_begin.2.1 6 = .ok (.bipush 9, 2) := by decide +kernel
theorem dX10_begin_8 : decode M_X10_begin.2.1 8 = .ok (.if_icmp .gt 17, 3) := by decide +kernel
theorem dX10_begin_11 : decode M_X10_begin.2.1 11 = .ok (.iload_n 2, 1) := by decide +kernel
theorem dX10_begin_12 : decode M_X10_begin.2.1 12 = .ok (.sipush (-200), 3) := by decide +kernel
theorem dX10_begin_15 : decode M_X10_begin.2.1 15 = .ok (.if_icmp .lt 10, 3) := by decide +kernel
theorem dX10_begin_18 : decode M_X10_begin.2.1 18 = .ok (.iload_n 2, 1) := by decide +kernel
theorem dX10_begin_19 : decode M_X10_begin.2.1 19 = .ok (.sipush 200, 3) := by decide +kernel
theorem dX10_begin_22 : decode M_X10_begin.2.1 22 = .ok (.if_icmp .le 5, 3) := by decide +kernel
theorem dX10_begin_25 : decode M_X10_begin.2.1 25 = .ok (.iconst 0, 1) := by decide +kernel
theorem dX10_begin_26 : decode M_X10_begin.2.1 26 = .ok (.ireturn, 1) := by decide +kernel
theorem dX10_begin_27 : decode M_X10_begin.2.1 27 = .ok (.aload_n 0, 1) := by decide +kernel
theorem dX10_begin_28 : decode M_X10_begin.2.1 28 = .ok (.aload_n 0, 1) := by decide +kernel
theorem dX10_begin_29 : decode M_X10_begin.2.1 29 = .ok (.getfield 170, 3) := by decide +kernel
theorem dX10_begin_32 : decode M_X10_begin.2.1 32 = .ok (.iload_n 1, 1) := by decide +kernel
theorem dX10_begin_33 : decode M_X10_begin.2.1 33 = .ok (.iload_n 2, 1) := by decide +kernel
theorem dX10_begin_34 : decode M_X10_begin.2.1 34 = .ok (.invokevirtual 117, 3) := by decide +kernel
theorem dX10_begin_37 : decode M_X10_begin.2.1 37 = .ok (.aload_n 0, 1) := by decide +kernel
theorem dX10_begin_38 : decode M_X10_begin.2.1 38 = .ok (.aload_n 0, 1) := by decide +kernel
theorem dX10_begin_39 : decode M_X10_begin.2.1 39 = .ok (.getfield 170, 3) := by decide +kernel
theorem dX10_begin_42 : decode M_X10_begin.2.1 42 = .ok (.invokevirtual 121, 3) := by decide +kernel
theorem dX10_begin_45 : decode M_X10_begin.2.1 45 = .ok (.aload_n 0, 1) := by decide +kernel
theorem dX10_begin_46 : decode M_X10_begin.2.1 46 = .ok (.sipush 250, 3) := by decide +kernel
theorem dX10_begin_49 : decode M_X10_begin.2.1 49 = .ok (.aload_n 0, 1) := by decide +kernel
theorem dX10_begin_50 : decode M_X10_begin.2.1 50 = .ok (.getfield 170, 3) := by decide +kernel
theorem dX10_begin_53 : decode M_X10_begin.2.1 53 = .ok (.imul, 1) := by decide +kernel
theorem dX10_begin_54 : decode M_X10_begin.2.1 54 = .ok (.putfield 173, 3) := by decide +kernel
theorem dX10_begin_57 : decode M_X10_begin.2.1 57 = .ok (.aload_n 0, 1) := by decide +kernel
theorem dX10_begin_58 : decode M_X10_begin.2.1 58 = .ok (.invokevirtual 186, 3) := by decide +kernel
theorem dX10_begin_61 : decode M_X10_begin.2.1 61 = .ok (.iconst 1, 1) := by decide +kernel
theorem dX10_begin_62 : decode M_X10_begin.2.1 62 = .ok (.ireturn, 1) := by decide +kernel
theorem w_X10_begin {X : ZX} {d n : Nat} {P : Int → ZSto → Prop} {x1 : Int} {x2 : Int} {σ : ZSto} (hn : 104 ≤ n)  (hx1 : R32 x1) (hx2 : R32 x2)
    (h : (x1 < 3 → P 0 σ) ∧ (¬ (x1 < 3) → (9 < x1 → P 0 σ) ∧ (¬ (9 < x1) → (x2 < (-200) → P 0 σ) ∧ (¬ (x2 < (-200)) → (x2 ≤ 200 → ZkV X M_X10_empties d n [.ref (zB X + 73), iV (gI σ 73 10), iV x1, iV x2] σ (fun σ17 => ZkV X M_X10_opens d n [.ref (zB X + 73), iV (gI σ17 73 10)] σ17 (fun σ22 => R32 (250 * (gI σ22 73 10)) ∧ ZkV X M_X10_clears d n [.ref (zB X + 73)] (sI σ22 73 11 (250 * (gI σ22 73 10))) (fun σ30 => P 1 σ30)))) ∧ (¬ (x2 ≤ 200) → P 0 σ))))) :
    ZkZ X M_X10_begin (d + 1) n [.ref (zB X + 73), iV x1, iV x2] σ P := by
  refine zk_of (ls := [some (.ref (zB X + 73)), some (iV x1), some (iV x2)]) pl_RX10 (Nat.le_of_ble_eq_true rfl) rfl (fun k0 => ?_)
  unfold Zn
  refine r_iload_n dX10_begin_0 rfl ?_
  refine r_iconst dX10_begin_1 ?_
  refine r_icmp_lt (t := 25) dX10_begin_2 rfl hx1 (r32c rfl) (fun c1 => ?_) (fun c2 => ?_)
  · have h3 := h.1 c1
    refine r_iconst dX10_begin_25 ?_
    exact r_zreturn dX10_begin_26 rfl (Or.inl rfl) ⟨k0, _, rfl, (Or.inl rfl), h3⟩
  · have h4 := h.2 c2
    refine r_iload_n dX10_begin_5 rfl ?_
    refine r_bipush dX10_begin_6 rfl ?_
    refine r_icmp_gt (t := 25) dX10_begin_8 rfl hx1 (r32c rfl) (fun c5 => ?_) (fun c6 => ?_)
    · have h7 := h4.1 c5
      refine r_iconst dX10_begin_25 ?_
      exact r_zreturn dX10_begin_26 rfl (Or.inl rfl) ⟨k0, _, rfl, (Or.inl rfl), h7⟩
    · have h8 := h4.2 c6
      refine r_iload_n dX10_begin_11 rfl ?_
      refine r_sipush dX10_begin_12 rfl ?_
      refine r_icmp_lt (t := 25) dX10_begin_15 rfl hx2 (r32c rfl) (fun c9 => ?_) (fun c10 => ?_)
      · have h11 := h8.1 c9
        refine r_iconst dX10_begin_25 ?_
        exact r_zreturn dX10_begin_26 rfl (Or.inl rfl) ⟨k0, _, rfl, (Or.inl rfl), h11⟩
      · have h12 := h8.2 c10
        refine r_iload_n dX10_begin_18 rfl ?_
        refine r_sipush dX10_begin_19 rfl ?_
        refine r_icmp_le (t := 27) dX10_begin_22 rfl hx2 (r32c rfl) (fun c13 => ?_) (fun c14 => ?_)
        · have h15 := h12.1 c13
          refine r_aload_n dX10_begin_27 rfl ?_
          refine r_aload_n dX10_begin_28 rfl ?_
          refine r_getI dX10_begin_29 kf_RX10_170 (zlt hn rfl) sh_73 (Or.inl rfl) rfl ?_
          refine r_iload_n dX10_begin_32 rfl ?_
          refine r_iload_n dX10_begin_33 rfl ?_
          refine n_callV (N := M_X10_empties) (As := [iV (gI σ 73 10), iV x1, iV x2]) (st := []) dX10_begin_34 mk_X10_empties km_RX10_117 kd_X10_empties rfl (zlt hn rfl) sh_73 (q := (RX10, TX10, 52)) rfl rfl (zFits_rm d n n n (Nat.le_refl n)) (Nat.le_of_ble_eq_true rfl) rfl k0 h15 ?_
          rintro _ σ17 k18 ⟨rfl, h20⟩
          change Zm _ _ _ _ _ _ 37 _ [] _
          refine r_aload_n dX10_begin_37 rfl ?_
          refine r_aload_n dX10_begin_38 rfl ?_
          refine r_getI dX10_begin_39 kf_RX10_170 (zlt hn rfl) sh_73 (Or.inl rfl) rfl ?_
          refine n_callV (N := M_X10_opens) (As := [iV (gI σ17 73 10)]) (st := []) dX10_begin_42 mk_X10_opens km_RX10_121 kd_X10_opens rfl (zlt hn rfl) sh_73 (q := (RX10, TX10, 52)) rfl rfl (zFits_rm d n n n (Nat.le_refl n)) (Nat.le_of_ble_eq_true rfl) rfl k18 h20 ?_
          rintro _ σ22 k23 ⟨rfl, h25⟩
          change Zm _ _ _ _ _ _ 45 _ [] _
          refine r_aload_n dX10_begin_45 rfl ?_
          refine r_sipush dX10_begin_46 rfl ?_
          refine r_aload_n dX10_begin_49 rfl ?_
          refine r_getI dX10_begin_50 kf_RX10_170 (zlt hn rfl) sh_73 (Or.inl rfl) rfl ?_
          refine r_imul dX10_begin_53 ?_
          obtain ⟨h26, h27⟩ := h25
          refine r_putI dX10_begin_54 kf_RX10_173 (zlt hn rfl) sh_73 rfl (Or.inl rfl) ?_
          have k28 := zok_o (i := 11) (x := 250 * (gI σ22 73 10)) k23 sh_73 h26
          refine r_aload_n dX10_begin_57 rfl ?_
          refine n_callV (N := M_X10_clears) (As := []) (st := []) dX10_begin_58 mk_X10_clears km_RX10_186 kd_X10_clears rfl (zlt hn rfl) sh_73 (q := (RX10, TX10, 52)) rfl rfl (zFits_rm d n n n (Nat.le_refl n)) (Nat.le_of_ble_eq_true rfl) rfl k28 h27 ?_
          rintro _ σ30 k31 ⟨rfl, h33⟩
          change Zm _ _ _ _ _ _ 61 _ [] _
          refine r_iconst dX10_begin_61 ?_
          exact r_zreturn dX10_begin_62 rfl (Or.inr rfl) ⟨k31, _, rfl, (Or.inr rfl), h33⟩
        · have h34 := h12.2 c14
          refine r_iconst dX10_begin_25 ?_
          exact r_zreturn dX10_begin_26 rfl (Or.inl rfl) ⟨k0, _, rfl, (Or.inl rfl), h34⟩
/-! StoneRoomModel.ko -/
theorem dX10_ko_0 : decode M_X10_ko.2.1 0 = .ok (.iload_n 1, 1) := by decide +kernel
theorem dX10_ko_1 : decode M_X10_ko.2.1 1 = .ok (.ifCond .lt 8, 3) := by decide +kernel
theorem dX10_ko_4 : decode M_X10_ko.2.1 4 = .ok (.iload_n 1, 1) := by decide +kernel
theorem dX10_ko_5 : decode M_X10_ko.2.1 5 = .ok (.iconst 2, 1) := by decide +kernel
theorem dX10_ko_6 : decode M_X10_ko.2.1 6 = .ok (.if_icmp .le 5, 3) := by decide +kernel
theorem dX10_ko_9 : decode M_X10_ko.2.1 9 = .ok (.iconst (-1), 1) := by decide +kernel
theorem dX10_ko_10 : decode M_X10_ko.2.1 10 = .ok (.ireturn, 1) := by decide +kernel
theorem dX10_ko_11 : decode M_X10_ko.2.1 11 = .ok (.aload_n 0, 1) := by decide +kernel
theorem dX10_ko_12 : decode M_X10_ko.2.1 12 = .ok (.getfield 42, 3) := by decide +kernel
theorem dX10_ko_15 : decode M_X10_ko.2.1 15 = .ok (.istore_n 2, 1) := by decide +kernel
theorem dX10_ko_16 : decode M_X10_ko.2.1 16 = .ok (.aload_n 0, 1) := by decide +kernel
theorem dX10_ko_17 : decode M_X10_ko.2.1 17 = .ok (.iload_n 1, 1) := by decide +kernel
theorem dX10_ko_18 : decode M_X10_ko.2.1 18 = .ok (.putfield 42, 3) := by decide +kernel
theorem dX10_ko_21 : decode M_X10_ko.2.1 21 = .ok (.iload_n 2, 1) := by decide +kernel
theorem dX10_ko_22 : decode M_X10_ko.2.1 22 = .ok (.ireturn, 1) := by decide +kernel
theorem w_X10_ko {X : ZX} {d n : Nat} {P : Int → ZSto → Prop} {x1 : Int} {σ : ZSto} (hn : 104 ≤ n)  (hx1 : R32 x1)
    (h : (x1 < 0 → P ((-1)) σ) ∧ (¬ (x1 < 0) → (x1 ≤ 2 → (∀ y8 : Int, y8 = gI σ 73 12 → P y8 (sI σ 73 12 x1))) ∧ (¬ (x1 ≤ 2) → P ((-1)) σ))) :
    ZkI X M_X10_ko (d + 1) n [.ref (zB X + 73), iV x1] σ P := by
  refine zk_of (ls := [some (.ref (zB X + 73)), some (iV x1), none]) pl_RX10 (Nat.le_of_ble_eq_true rfl) rfl (fun k0 => ?_)
  unfold Zn
  refine r_iload_n dX10_ko_0 rfl ?_
  refine r_if_lt (t := 9) dX10_ko_1 rfl hx1  (fun c1 => ?_) (fun c2 => ?_)
  · have h3 := h.1 c1
    refine r_iconst dX10_ko_9 ?_
    exact r_ireturn dX10_ko_10 rfl ⟨k0, _, rfl, (r32c rfl), h3⟩
  · have h4 := h.2 c2
    refine r_iload_n dX10_ko_4 rfl ?_
    refine r_iconst dX10_ko_5 ?_
    refine r_icmp_le (t := 11) dX10_ko_6 rfl hx1 (r32c rfl) (fun c5 => ?_) (fun c6 => ?_)
    · have h7 := h4.1 c5
      refine r_aload_n dX10_ko_11 rfl ?_
      refine r_getI dX10_ko_12 kf_RX10_42 (zlt hn rfl) sh_73 (Or.inl rfl) rfl ?_
      refine r_name (fun y8 e9 => ?_)
      have h10 := h7 y8 e9
      refine r_istore_n dX10_ko_15 rfl rfl ?_
      refine r_aload_n dX10_ko_16 rfl ?_
      refine r_iload_n dX10_ko_17 rfl ?_
      refine r_putI dX10_ko_18 kf_RX10_42 (zlt hn rfl) sh_73 rfl (Or.inl rfl) ?_
      have k11 := zok_o (i := 12) (x := x1) k0 sh_73 hx1
      refine r_iload_n dX10_ko_21 rfl ?_
      exact r_ireturn dX10_ko_22 rfl ⟨k11, _, rfl, (by rw [e9]; exact (k0.2.1 _ _)), h10⟩
    · have h12 := h4.2 c6
      refine r_iconst dX10_ko_9 ?_
      exact r_ireturn dX10_ko_10 rfl ⟨k0, _, rfl, (r32c rfl), h12⟩
/-! StoneRoomModel.let -/
theorem dX10_let_0 : decode M_X10_let.2.1 0 = .ok (.aload_n 0, 1) := by decide +kernel
theorem dX10_let_1 : decode M_X10_let.2.1 1 = .ok (.iload_n 1, 1) := by decide +kernel
theorem dX10_let_2 : decode M_X10_let.2.1 2 = .ok (.invokevirtual 189, 3) := by decide +kernel
theorem dX10_let_5 : decode M_X10_let.2.1 5 = .ok (.ireturn, 1) := by decide +kernel
theorem w_X10_let {X : ZX} {d n : Nat} {P : Int → ZSto → Prop} {x1 : Int} {σ : ZSto} (hn : 104 ≤ n)  (hx1 : R32 x1)
    (h : ZkI X M_X10_status d n [.ref (zB X + 73), iV x1] σ (fun v1 σ2 => P v1 σ2)) :
    ZkI X M_X10_let (d + 1) n [.ref (zB X + 73), iV x1] σ P := by
  refine zk_of (ls := [some (.ref (zB X + 73)), some (iV x1)]) pl_RX10 (Nat.le_of_ble_eq_true rfl) rfl (fun k0 => ?_)
  unfold Zn
  refine r_aload_n dX10_let_0 rfl ?_
  refine r_iload_n dX10_let_1 rfl ?_
  refine n_callV (N := M_X10_status) (As := [iV x1]) (st := []) dX10_let_2 mk_X10_status km_RX10_189 kd_X10_status rfl (zlt hn rfl) sh_73 (q := (RX10, TX10, 52)) rfl rfl (zFits_rm d n n n (Nat.le_refl n)) (Nat.le_of_ble_eq_true rfl) rfl k0 h ?_
  rintro _ σ2 k3 ⟨v1, rfl, h4, h5⟩
  change Zm _ _ _ _ _ _ 5 _ [iV v1] _
  exact r_ireturn dX10_let_5 rfl ⟨k3, _, rfl, h4, h5⟩
/-! StoneRoomModel.play -/
theorem dX10_play_0 : decode M_X10_play.2.1 0 = .ok (.aload_n 0, 1) := by decide +kernel
theorem dX10_play_1 : decode M_X10_play.2.1 1 = .ok (.iload_n 1, 1) := by decide +kernel
theorem dX10_play_2 : decode M_X10_play.2.1 2 = .ok (.invokevirtual 189, 3) := by decide +kernel
theorem dX10_play_5 : decode M_X10_play.2.1 5 = .ok (.istore_n 2, 1) := by decide +kernel
theorem dX10_play_6 : decode M_X10_play.2.1 6 = .ok (.iload_n 2, 1) := by decide +kernel
theorem dX10_play_7 : decode M_X10_play.2.1 7 = .ok (.ifCond .le 5, 3) := by decide +kernel
theorem dX10_play_10 : decode M_X10_play.2.1 10 = .ok (.iload_n 2, 1) := by decide +kernel
theorem dX10_play_11 : decode M_X10_play.2.1 11 = .ok (.ireturn, 1) := by decide +kernel
theorem dX10_play_12 : decode M_X10_play.2.1 12 = .ok (.aload_n 0, 1) := by decide +kernel
theorem dX10_play_13 : decode M_X10_play.2.1 13 = .ok (.aload_n 0, 1) := by decide +kernel
theorem dX10_play_14 : decode M_X10_play.2.1 14 = .ok (.getfield 173, 3) := by decide +kernel
theorem dX10_play_17 : decode M_X10_play.2.1 17 = .ok (.invokevirtual 160, 3) := by decide +kernel
theorem dX10_play_20 : decode M_X10_play.2.1 20 = .ok (.istore_n 3, 1) := by decide +kernel
theorem dX10_play_21 : decode M_X10_play.2.1 21 = .ok (.aload_n 0, 1) := by decide +kernel
theorem dX10_play_22 : decode M_X10_play.2.1 22 = .ok (.aload_n 0, 1) := by decide +kernel
theorem dX10_play_23 : decode M_X10_play.2.1 23 = .ok (.getfield 173, 3) := by decide +kernel
theorem dX10_play_26 : decode M_X10_play.2.1 26 = .ok (.iload_n 1, 1) := by decide +kernel
theorem dX10_play_27 : decode M_X10_play.2.1 27 = .ok (.iload_n 3, 1) := by decide +kernel
theorem dX10_play_28 : decode M_X10_play.2.1 28 = .ok (.invokevirtual 183, 3) := by decide +kernel
theorem dX10_play_31 : decode M_X10_play.2.1 31 = .ok (.istore 4, 2) := by decide +kernel
theorem dX10_play_33 : decode M_X10_play.2.1 33 = .ok (.iload 4, 2) := by decide +kernel
theorem dX10_play_35 : decode M_X10_play.2.1 35 = .ok (.ifCond .ge 25, 3) := by decide +kernel
theorem dX10_play_38 : decode M_X10_play.2.1 38 = .ok (.aload_n 0, 1) := by decide +kernel
theorem dX10_play_39 : decode M_X10_play.2.1 39 = .ok (.aload_n 0, 1) := by decide +kernel
theorem dX10_play_40 : decode M_X10_play.2.1 40 = .ok (.getfield 170, 3) := by decide +kernel
theorem dX10_play_43 : decode M_X10_play.2.1 43 = .ok (.aload_n 0, 1) := by decide +kernel
theorem dX10_play_44 : decode M_X10_play.2.1 44 = .ok (.getfield 173, 3) := by decide +kernel
theorem dX10_play_47 : decode M_X10_play.2.1 47 = .ok (.invokevirtual 125, 3) := by decide +kernel
theorem dX10_play_50 : decode M_X10_play.2.1 50 = .ok (.istore 4, 2) := by decide +kernel
theorem dX10_play_52 : decode M_X10_play.2.1 52 = .ok (.aload_n 0, 1) := by decide +kernel
theorem dX10_play_53 : decode M_X10_play.2.1 53 = .ok (.iload 4, 2) := by decide +kernel
theorem dX10_play_55 : decode M_X10_play.2.1 55 = .ok (.iload_n 1, 1) := by decide +kernel
theorem dX10_play_56 : decode M_X10_play.2.1 56 = .ok (.iload_n 3, 1) := by decide +kernel
theorem dX10_play_57 : decode M_X10_play.2.1 57 = .ok (.invokevirtual 192, 3) := by decide +kernel
theorem dX10_play_60 : decode M_X10_play.2.1 60 = .ok (.aload_n 0, 1) := by decide +kernel
theorem dX10_play_61 : decode M_X10_play.2.1 61 = .ok (.iload 4, 2) := by decide +kernel
theorem dX10_play_63 : decode M_X10_play.2.1 63 = .ok (.putfield 173, 3) := by decide +kernel
theorem dX10_play_66 : decode M_X10_play.2.1 66 = .ok (.aload_n 0, 1) := by decide +kernel
theorem dX10_play_67 : decode M_X10_play.2.1 67 = .ok (.invokevirtual 186, 3) := by decide +kernel
theorem dX10_play_70 : decode M_X10_play.2.1 70 = .ok (.iconst 0, 1) := by decide +kernel
theorem dX10_play_71 : decode M_X10_play.2.1 71 = .ok (.ireturn, 1) := by decide +kernel
theorem w_X10_play {X : ZX} {d n : Nat} {P : Int → ZSto → Prop} {x1 : Int} {σ : ZSto} (hn : 104 ≤ n)  (hx1 : R32 x1)
    (h : ZkI X M_X10_status d n [.ref (zB X + 73), iV x1] σ (fun v1 σ2 => (v1 ≤ 0 → ZkI X M_X10_turn d n [.ref (zB X + 73), iV (gI σ2 73 11)] σ2 (fun v9 σ10 => ZkI X M_X10_child d n [.ref (zB X + 73), iV (gI σ10 73 11), iV x1, iV v9] σ10 (fun v14 σ15 => (0 ≤ v14 → ZkV X M_X10_clears d n [.ref (zB X + 73)] (sI σ15 73 11 v14) (fun σ24 => P 0 σ24)) ∧ (¬ (0 ≤ v14) → ZkI X M_X10_comes d n [.ref (zB X + 73), iV (gI σ15 73 10), iV (gI σ15 73 11)] σ15 (fun v29 σ30 => ZkV X M_X10_moves d n [.ref (zB X + 73), iV v29, iV x1, iV v9] σ30 (fun σ35 => ZkV X M_X10_clears d n [.ref (zB X + 73)] (sI σ35 73 11 v29) (fun σ41 => P 0 σ41))))))) ∧ (¬ (v1 ≤ 0) → P v1 σ2))) :
    ZkI X M_X10_play (d + 1) n [.ref (zB X + 73), iV x1] σ P := by
  refine zk_of (ls := [some (.ref (zB X + 73)), some (iV x1), none, none, none]) pl_RX10 (Nat.le_of_ble_eq_true rfl) rfl (fun k0 => ?_)
  unfold Zn
  refine r_aload_n dX10_play_0 rfl ?_
  refine r_iload_n dX10_play_1 rfl ?_
  refine n_callV (N := M_X10_status) (As := [iV x1]) (st := []) dX10_play_2 mk_X10_status km_RX10_189 kd_X10_status rfl (zlt hn rfl) sh_73 (q := (RX10, TX10, 52)) rfl rfl (zFits_rm d n n n (Nat.le_refl n)) (Nat.le_of_ble_eq_true rfl) rfl k0 h ?_
  rintro _ σ2 k3 ⟨v1, rfl, h4, h5⟩
  change Zm _ _ _ _ _ _ 5 _ [iV v1] _
  refine r_istore_n dX10_play_5 rfl rfl ?_
  refine r_iload_n dX10_play_6 rfl ?_
  refine r_if_le (t := 12) dX10_play_7 rfl h4  (fun c6 => ?_) (fun c7 => ?_)
  · have h8 := h5.1 c6
    refine r_aload_n dX10_play_12 rfl ?_
    refine r_aload_n dX10_play_13 rfl ?_
    refine r_getI dX10_play_14 kf_RX10_173 (zlt hn rfl) sh_73 (Or.inl rfl) rfl ?_
    refine n_callV (N := M_X10_turn) (As := [iV (gI σ2 73 11)]) (st := []) dX10_play_17 mk_X10_turn km_RX10_160 kd_X10_turn rfl (zlt hn rfl) sh_73 (q := (RX10, TX10, 52)) rfl rfl (zFits_rm d n n n (Nat.le_refl n)) (Nat.le_of_ble_eq_true rfl) rfl k3 h8 ?_
    rintro _ σ10 k11 ⟨v9, rfl, h12, h13⟩
    change Zm _ _ _ _ _ _ 20 _ [iV v9] _
    refine r_istore_n dX10_play_20 rfl rfl ?_
    refine r_aload_n dX10_play_21 rfl ?_
    refine r_aload_n dX10_play_22 rfl ?_
    refine r_getI dX10_play_23 kf_RX10_173 (zlt hn rfl) sh_73 (Or.inl rfl) rfl ?_
    refine r_iload_n dX10_play_26 rfl ?_
    refine r_iload_n dX10_play_27 rfl ?_
    refine n_callV (N := M_X10_child) (As := [iV (gI σ10 73 11), iV x1, iV v9]) (st := []) dX10_play_28 mk_X10_child km_RX10_183 kd_X10_child rfl (zlt hn rfl) sh_73 (q := (RX10, TX10, 52)) rfl rfl (zFits_rm d n n n (Nat.le_refl n)) (Nat.le_of_ble_eq_true rfl) rfl k11 h13 ?_
    rintro _ σ15 k16 ⟨v14, rfl, h17, h18⟩
    change Zm _ _ _ _ _ _ 31 _ [iV v14] _
    refine r_istore dX10_play_31 rfl rfl ?_
    refine r_iload dX10_play_33 rfl ?_
    refine r_if_ge (t := 60) dX10_play_35 rfl h17  (fun c19 => ?_) (fun c20 => ?_)
    · have h21 := h18.1 c19
      refine r_aload_n dX10_play_60 rfl ?_
      refine r_iload dX10_play_61 rfl ?_
      refine r_putI dX10_play_63 kf_RX10_173 (zlt hn rfl) sh_73 rfl (Or.inl rfl) ?_
      have k22 := zok_o (i := 11) (x := v14) k16 sh_73 h17
      refine r_aload_n dX10_play_66 rfl ?_
      refine n_callV (N := M_X10_clears) (As := []) (st := []) dX10_play_67 mk_X10_clears km_RX10_186 kd_X10_clears rfl (zlt hn rfl) sh_73 (q := (RX10, TX10, 52)) rfl rfl (zFits_rm d n n n (Nat.le_refl n)) (Nat.le_of_ble_eq_true rfl) rfl k22 h21 ?_
      rintro _ σ24 k25 ⟨rfl, h27⟩
      change Zm _ _ _ _ _ _ 70 _ [] _
      refine r_iconst dX10_play_70 ?_
      exact r_ireturn dX10_play_71 rfl ⟨k25, _, rfl, (r32c rfl), h27⟩
    · have h28 := h18.2 c20
      refine r_aload_n dX10_play_38 rfl ?_
      refine r_aload_n dX10_play_39 rfl ?_
      refine r_getI dX10_play_40 kf_RX10_170 (zlt hn rfl) sh_73 (Or.inl rfl) rfl ?_
      refine r_aload_n dX10_play_43 rfl ?_
      refine r_getI dX10_play_44 kf_RX10_173 (zlt hn rfl) sh_73 (Or.inl rfl) rfl ?_
      refine n_callV (N := M_X10_comes) (As := [iV (gI σ15 73 10), iV (gI σ15 73 11)]) (st := []) dX10_play_47 mk_X10_comes km_RX10_125 kd_X10_comes rfl (zlt hn rfl) sh_73 (q := (RX10, TX10, 52)) rfl rfl (zFits_rm d n n n (Nat.le_refl n)) (Nat.le_of_ble_eq_true rfl) rfl k16 h28 ?_
      rintro _ σ30 k31 ⟨v29, rfl, h32, h33⟩
      change Zm _ _ _ _ _ _ 50 _ [iV v29] _
      refine r_istore dX10_play_50 rfl rfl ?_
      refine r_aload_n dX10_play_52 rfl ?_
      refine r_iload dX10_play_53 rfl ?_
      refine r_iload_n dX10_play_55 rfl ?_
      refine r_iload_n dX10_play_56 rfl ?_
      refine n_callV (N := M_X10_moves) (As := [iV v29, iV x1, iV v9]) (st := []) dX10_play_57 mk_X10_moves km_RX10_192 kd_X10_moves rfl (zlt hn rfl) sh_73 (q := (RX10, TX10, 52)) rfl rfl (zFits_rm d n n n (Nat.le_refl n)) (Nat.le_of_ble_eq_true rfl) rfl k31 h33 ?_
      rintro _ σ35 k36 ⟨rfl, h38⟩
      change Zm _ _ _ _ _ _ 60 _ [] _
      refine r_aload_n dX10_play_60 rfl ?_
      refine r_iload dX10_play_61 rfl ?_
      refine r_putI dX10_play_63 kf_RX10_173 (zlt hn rfl) sh_73 rfl (Or.inl rfl) ?_
      have k39 := zok_o (i := 11) (x := v29) k36 sh_73 h32
      refine r_aload_n dX10_play_66 rfl ?_
      refine n_callV (N := M_X10_clears) (As := []) (st := []) dX10_play_67 mk_X10_clears km_RX10_186 kd_X10_clears rfl (zlt hn rfl) sh_73 (q := (RX10, TX10, 52)) rfl rfl (zFits_rm d n n n (Nat.le_refl n)) (Nat.le_of_ble_eq_true rfl) rfl k39 h38 ?_
      rintro _ σ41 k42 ⟨rfl, h44⟩
      change Zm _ _ _ _ _ _ 70 _ [] _
      refine r_iconst dX10_play_70 ?_
      exact r_ireturn dX10_play_71 rfl ⟨k42, _, rfl, (r32c rfl), h44⟩
  · have h45 := h5.2 c7
    refine r_iload_n dX10_play_10 rfl ?_
    exact r_ireturn dX10_play_11 rfl ⟨k3, _, rfl, h4, h45⟩
/-! StoneRoomModel.moves -/
theorem dX10_moves_0 : decode M_X10_moves.2.1 0 = .ok (.aload_n 0, 1) := by decide +kernel
theorem dX10_moves_1 : decode M_X10_moves.2.1 1 = .ok (.getfield 13, 3) := by decide +kernel
theorem dX10_moves_4 : decode M_X10_moves.2.1 4 = .ok (.iload_n 1, 1) := by decide +kernel
theorem dX10_moves_5 : decode M_X10_moves.2.1 5 = .ok (.iload_n 2, 1) := by decide +kernel
theorem dX10_moves_6 : decode M_X10_moves.2.1 6 = .ok (.iconst (-1), 1) := by decide +kernel
theorem dX10_moves_7 : decode M_X10_moves.2.1 7 = .ok (.if_icmp .ne 7, 3) := by decide +kernel
theorem dX10_moves_10 : decode M_X10_moves.2.1 10 = .ok (.iconst 2, 1) := by decide +kernel
theorem dX10_moves_11 : decode M_X10_moves.2.1 11 = .ok (.goto 4, 3) := by decide +kernel
theorem dX10_moves_14 : decode M_X10_moves.2.1 14 = .ok (.iconst 1, 1) := by decide +kernel
theorem dX10_moves_15 : decode M_X10_moves.2.1 15 = .ok (.iastore, 1) := by decide +kernel
theorem dX10_moves_16 : decode M_X10_moves.2.1 16 = .ok (.aload_n 0, 1) := by decide +kernel
theorem dX10_moves_17 : decode M_X10_moves.2.1 17 = .ok (.getfield 16, 3) := by decide +kernel
theorem dX10_moves_20 : decode M_X10_moves.2.1 20 = .ok (.iload_n 1, 1) := by decide +kernel
theorem dX10_moves_21 : decode M_X10_moves.2.1 21 = .ok (.iload_n 3, 1) := by decide +kernel
theorem dX10_moves_22 : decode M_X10_moves.2.1 22 = .ok (.iastore, 1) := by decide +kernel
theorem dX10_moves_23 : decode M_X10_moves.2.1 23 = .ok (.aload_n 0, 1) := by decide +kernel
theorem dX10_moves_24 : decode M_X10_moves.2.1 24 = .ok (.getfield 19, 3) := by decide +kernel
theorem dX10_moves_27 : decode M_X10_moves.2.1 27 = .ok (.iload_n 1, 1) := by decide +kernel
theorem dX10_moves_28 : decode M_X10_moves.2.1 28 = .ok (.iload_n 2, 1) := by decide +kernel
theorem dX10_moves_29 : decode M_X10_moves.2.1 29 = .ok (.iastore, 1) := by decide +kernel
theorem dX10_moves_30 : decode M_X10_moves.2.1 30 = .ok (.aload_n 0, 1) := by decide +kernel
theorem dX10_moves_31 : decode M_X10_moves.2.1 31 = .ok (.aload_n 0, 1) := by decide +kernel
theorem dX10_moves_32 : decode M_X10_moves.2.1 32 = .ok (.getfield 7, 3) := by decide +kernel
theorem dX10_moves_35 : decode M_X10_moves.2.1 35 = .ok (.iload_n 1, 1) := by decide +kernel
theorem dX10_moves_36 : decode M_X10_moves.2.1 36 = .ok (.iaload, 1) := by decide +kernel
theorem dX10_moves_37 : decode M_X10_moves.2.1 37 = .ok (.invokevirtual 133, 3) := by decide +kernel
theorem dX10_moves_40 : decode M_X10_moves.2.1 40 = .ok (.iload_n 2, 1) := by decide +kernel
theorem dX10_moves_41 : decode M_X10_moves.2.1 41 = .ok (.iconst (-1), 1) := by decide +kernel
theorem dX10_moves_42 : decode M_X10_moves.2.1 42 = .ok (.if_icmp .eq 12, 3) := by decide +kernel
theorem dX10_moves_45 : decode M_X10_moves.2.1 45 = .ok (.aload_n 0, 1) := by decide +kernel
theorem dX10_moves_46 : decode M_X10_moves.2.1 46 = .ok (.iload_n 2, 1) := by decide +kernel
theorem dX10_moves_47 : decode M_X10_moves.2.1 47 = .ok (.iload_n 3, 1) := by decide +kernel
theorem dX10_moves_48 : decode M_X10_moves.2.1 48 = .ok (.invokevirtual 163, 3) := by decide +kernel
theorem dX10_moves_51 : decode M_X10_moves.2.1 51 = .ok (.ifCond .eq 7, 3) := by decide +kernel
theorem dX10_moves_54 : decode M_X10_moves.2.1 54 = .ok (.iconst 1, 1) := by decide +kernel
theorem dX10_moves_55 : decode M_X10_moves.2.1 55 = .ok (.goto 4, 3) := by decide +kernel
theorem dX10_moves_58 : decode M_X10_moves.2.1 58 = .ok (.iconst 0, 1) := by decide +kernel
theorem dX10_moves_59 : decode M_X10_moves.2.1 59 = .ok (.istore 4, 2) := by decide +kernel
theorem dX10_moves_61 : decode M_X10_moves.2.1 61 = .ok (.aload_n 0, 1) := by decide +kernel
theorem dX10_moves_62 : decode M_X10_moves.2.1 62 = .ok (.getfield 22, 3) := by decide +kernel
theorem dX10_moves_65 : decode M_X10_moves.2.1 65 = .ok (.iload_n 1, 1) := by decide +kernel
theorem dX10_moves_66 : decode M_X10_moves.2.1 66 = .ok (.iload_n 2, 1) := by decide +kernel
theorem dX10_moves_67 : decode M_X10_moves.2.1 67 = .ok (.iconst (-1), 1) := by decide +kernel
theorem dX10_moves_68 : decode M_X10_moves.2.1 68 = .ok (.if_icmp .ne 7, 3) := by decide +kernel
theorem dX10_moves_71 : decode M_X10_moves.2.1 71 = .ok (.iconst 0, 1) := by decide +kernel
theorem dX10_moves_72 : decode M_X10_moves.2.1 72 = .ok (.goto 7, 3) := by decide +kernel
theorem dX10_moves_75 : decode M_X10_moves.2.1 75 = .ok (.aload_n 0, 1) := by decide +kernel
theorem dX10_moves_76 : decode M_X10_moves.2.1 76 = .ok (.getfield 145, 3) := by decide +kernel
theorem dX10_moves_79 : decode M_X10_moves.2.1 79 = .ok (.iastore, 1) := by decide +kernel
theorem dX10_moves_80 : decode M_X10_moves.2.1 80 = .ok (.aload_n 0, 1) := by decide +kernel
theorem dX10_moves_81 : decode M_X10_moves.2.1 81 = .ok (.iload_n 1, 1) := by decide +kernel
theorem dX10_moves_82 : decode M_X10_moves.2.1 82 = .ok (.invokevirtual 136, 3) := by decide +kernel
theorem dX10_moves_85 : decode M_X10_moves.2.1 85 = .ok (.return_, 1) := by decide +kernel
theorem w_X10_moves {X : ZX} {d n : Nat} {P : ZSto → Prop} {x1 : Int} {x2 : Int} {x3 : Int} {σ : ZSto} (hn : 104 ≤ n)  (hx1 : R32 x1) (hx2 : R32 x2) (hx3 : R32 x3)
    (h : (¬ x2 = (-1) → (0 ≤ x1 ∧ x1 < 500) ∧ ZkV X M_X10_load d n [.ref (zB X + 73), iV (gI σ 74 x1.toNat)] (sI (sI (sI σ 75 x1.toNat 1) 76 x1.toNat x3) 77 x1.toNat x2) (fun σ10 => (x2 = (-1) → (¬ x2 = (-1) → ZkV X M_X10_keep d n [.ref (zB X + 73), iV x1] (sI σ10 78 x1.toNat (gI σ10 73 18)) (fun σ22 => P σ22)) ∧ (x2 = (-1) → ZkV X M_X10_keep d n [.ref (zB X + 73), iV x1] (sI σ10 78 x1.toNat 0) (fun σ29 => P σ29))) ∧ (¬ (x2 = (-1)) → ZkZ X M_X10_put d n [.ref (zB X + 73), iV x2, iV x3] σ10 (fun v34 σ35 => (v34 = 0 → (¬ x2 = (-1) → ZkV X M_X10_keep d n [.ref (zB X + 73), iV x1] (sI σ35 78 x1.toNat (gI σ35 73 18)) (fun σ47 => P σ47)) ∧ (x2 = (-1) → ZkV X M_X10_keep d n [.ref (zB X + 73), iV x1] (sI σ35 78 x1.toNat 0) (fun σ54 => P σ54))) ∧ (¬ (v34 = 0) → (¬ x2 = (-1) → ZkV X M_X10_keep d n [.ref (zB X + 73), iV x1] (sI σ35 78 x1.toNat (gI σ35 73 18)) (fun σ64 => P σ64)) ∧ (x2 = (-1) → ZkV X M_X10_keep d n [.ref (zB X + 73), iV x1] (sI σ35 78 x1.toNat 0) (fun σ71 => P σ71))))))) ∧ (x2 = (-1) → (0 ≤ x1 ∧ x1 < 500) ∧ ZkV X M_X10_load d n [.ref (zB X + 73), iV (gI σ 74 x1.toNat)] (sI (sI (sI σ 75 x1.toNat 2) 76 x1.toNat x3) 77 x1.toNat x2) (fun σ82 => (x2 = (-1) → (¬ x2 = (-1) → ZkV X M_X10_keep d n [.ref (zB X + 73), iV x1] (sI σ82 78 x1.toNat (gI σ82 73 18)) (fun σ94 => P σ94)) ∧ (x2 = (-1) → ZkV X M_X10_keep d n [.ref (zB X + 73), iV x1] (sI σ82 78 x1.toNat 0) (fun σ101 => P σ101))) ∧ (¬ (x2 = (-1)) → ZkZ X M_X10_put d n [.ref (zB X + 73), iV x2, iV x3] σ82 (fun v106 σ107 => (v106 = 0 → (¬ x2 = (-1) → ZkV X M_X10_keep d n [.ref (zB X + 73), iV x1] (sI σ107 78 x1.toNat (gI σ107 73 18)) (fun σ119 => P σ119)) ∧ (x2 = (-1) → ZkV X M_X10_keep d n [.ref (zB X + 73), iV x1] (sI σ107 78 x1.toNat 0) (fun σ126 => P σ126))) ∧ (¬ (v106 = 0) → (¬ x2 = (-1) → ZkV X M_X10_keep d n [.ref (zB X + 73), iV x1] (sI σ107 78 x1.toNat (gI σ107 73 18)) (fun σ136 => P σ136)) ∧ (x2 = (-1) → ZkV X M_X10_keep d n [.ref (zB X + 73), iV x1] (sI σ107 78 x1.toNat 0) (fun σ143 => P σ143)))))))) :
    ZkV X M_X10_moves (d + 1) n [.ref (zB X + 73), iV x1, iV x2, iV x3] σ P := by
  refine zk_of (ls := [some (.ref (zB X + 73)), some (iV x1), some (iV x2), some (iV x3), none]) pl_RX10 (Nat.le_of_ble_eq_true rfl) rfl (fun k0 => ?_)
  unfold Zn
  refine r_aload_n dX10_moves_0 rfl ?_
  refine r_getP (a := 75) dX10_moves_1 kf_RX10_13 (zlt hn rfl) sh_73 rfl (k0.1 _ _ _ (zlt hn rfl) p_73_1) ?_
  refine r_iload_n dX10_moves_4 rfl ?_
  refine r_iload_n dX10_moves_5 rfl ?_
  refine r_iconst dX10_moves_6 ?_
  refine r_icmp_ne (t := 14) dX10_moves_7 rfl hx2 (r32c rfl) (fun c1 => ?_) (fun c2 => ?_)
  · have h3 := h.1 c1
    refine r_iconst dX10_moves_14 ?_
    obtain ⟨h4, h5⟩ := h3
    refine r_iastore dX10_moves_15 (zlt hn rfl) sh_75 h4.1 h4.2 ?_
    have k6 := zok_i (i := x1.toNat) (x := 1) k0 sh_75 (r32c rfl)
    refine r_aload_n dX10_moves_16 rfl ?_
    refine r_getP (a := 76) dX10_moves_17 kf_RX10_16 (zlt hn rfl) sh_73 rfl (k6.1 _ _ _ (zlt hn rfl) p_73_2) ?_
    refine r_iload_n dX10_moves_20 rfl ?_
    refine r_iload_n dX10_moves_21 rfl ?_
    refine r_iastore dX10_moves_22 (zlt hn rfl) sh_76 h4.1 h4.2 ?_
    have k7 := zok_i (i := x1.toNat) (x := x3) k6 sh_76 hx3
    refine r_aload_n dX10_moves_23 rfl ?_
    refine r_getP (a := 77) dX10_moves_24 kf_RX10_19 (zlt hn rfl) sh_73 rfl (k7.1 _ _ _ (zlt hn rfl) p_73_3) ?_
    refine r_iload_n dX10_moves_27 rfl ?_
    refine r_iload_n dX10_moves_28 rfl ?_
    refine r_iastore dX10_moves_29 (zlt hn rfl) sh_77 h4.1 h4.2 ?_
    have k8 := zok_i (i := x1.toNat) (x := x2) k7 sh_77 hx2
    refine r_aload_n dX10_moves_30 rfl ?_
    refine r_aload_n dX10_moves_31 rfl ?_
    refine r_getP (a := 74) dX10_moves_32 kf_RX10_7 (zlt hn rfl) sh_73 rfl (k8.1 _ _ _ (zlt hn rfl) p_73_0) ?_
    refine r_iload_n dX10_moves_35 rfl ?_
    refine r_ialoadE dX10_moves_36 (zlt hn rfl) sh_74 h4.1 h4.2 ((gI_c (by decide)).trans ((gI_c (by decide)).trans (gI_c (by decide)))) ?_
    refine n_callV (N := M_X10_load) (As := [iV (gI σ 74 x1.toNat)]) (st := []) dX10_moves_37 mk_X10_load km_RX10_133 kd_X10_load rfl (zlt hn rfl) sh_73 (q := (RX10, TX10, 52)) rfl rfl (zFits_rm d n n n (Nat.le_refl n)) (Nat.le_of_ble_eq_true rfl) rfl k8 h5 ?_
    rintro _ σ10 k11 ⟨rfl, h13⟩
    change Zm _ _ _ _ _ _ 40 _ [] _
    refine r_iload_n dX10_moves_40 rfl ?_
    refine r_iconst dX10_moves_41 ?_
    refine r_icmp_eq (t := 54) dX10_moves_42 rfl hx2 (r32c rfl) (fun c14 => ?_) (fun c15 => ?_)
    · have h16 := h13.1 c14
      refine r_iconst dX10_moves_54 ?_
      refine r_goto (t := 59) dX10_moves_55 rfl ?_
      refine r_istore dX10_moves_59 rfl rfl ?_
      refine r_aload_n dX10_moves_61 rfl ?_
      refine r_getP (a := 78) dX10_moves_62 kf_RX10_22 (zlt hn rfl) sh_73 rfl (k11.1 _ _ _ (zlt hn rfl) p_73_4) ?_
      refine r_iload_n dX10_moves_65 rfl ?_
      refine r_iload_n dX10_moves_66 rfl ?_
      refine r_iconst dX10_moves_67 ?_
      refine r_icmp_ne (t := 75) dX10_moves_68 rfl hx2 (r32c rfl) (fun c17 => ?_) (fun c18 => ?_)
      · have h19 := h16.1 c17
        refine r_aload_n dX10_moves_75 rfl ?_
        refine r_getI dX10_moves_76 kf_RX10_145 (zlt hn rfl) sh_73 (Or.inl rfl) rfl ?_
        refine r_iastore dX10_moves_79 (zlt hn rfl) sh_78 h4.1 h4.2 ?_
        have k20 := zok_i (i := x1.toNat) (x := gI σ10 73 18) k11 sh_78 (k11.2.1 _ _)
        refine r_aload_n dX10_moves_80 rfl ?_
        refine r_iload_n dX10_moves_81 rfl ?_
        refine n_callV (N := M_X10_keep) (As := [iV x1]) (st := []) dX10_moves_82 mk_X10_keep km_RX10_136 kd_X10_keep rfl (zlt hn rfl) sh_73 (q := (RX10, TX10, 52)) rfl rfl (zFits_rm d n n n (Nat.le_refl n)) (Nat.le_of_ble_eq_true rfl) rfl k20 h19 ?_
        rintro _ σ22 k23 ⟨rfl, h25⟩
        change Zm _ _ _ _ _ _ 85 _ [] _
        exact r_return dX10_moves_85 rfl ⟨k23, rfl, h25⟩
      · have h26 := h16.2 c18
        refine r_iconst dX10_moves_71 ?_
        refine r_goto (t := 79) dX10_moves_72 rfl ?_
        refine r_iastore dX10_moves_79 (zlt hn rfl) sh_78 h4.1 h4.2 ?_
        have k27 := zok_i (i := x1.toNat) (x := 0) k11 sh_78 (r32c rfl)
        refine r_aload_n dX10_moves_80 rfl ?_
        refine r_iload_n dX10_moves_81 rfl ?_
        refine n_callV (N := M_X10_keep) (As := [iV x1]) (st := []) dX10_moves_82 mk_X10_keep km_RX10_136 kd_X10_keep rfl (zlt hn rfl) sh_73 (q := (RX10, TX10, 52)) rfl rfl (zFits_rm d n n n (Nat.le_refl n)) (Nat.le_of_ble_eq_true rfl) rfl k27 h26 ?_
        rintro _ σ29 k30 ⟨rfl, h32⟩
        change Zm _ _ _ _ _ _ 85 _ [] _
        exact r_return dX10_moves_85 rfl ⟨k30, rfl, h32⟩
    · have h33 := h13.2 c15
      refine r_aload_n dX10_moves_45 rfl ?_
      refine r_iload_n dX10_moves_46 rfl ?_
      refine r_iload_n dX10_moves_47 rfl ?_
      refine n_callV (N := M_X10_put) (As := [iV x2, iV x3]) (st := []) dX10_moves_48 mk_X10_put km_RX10_163 kd_X10_put rfl (zlt hn rfl) sh_73 (q := (RX10, TX10, 52)) rfl rfl (zFits_rm d n n n (Nat.le_refl n)) (Nat.le_of_ble_eq_true rfl) rfl k11 h33 ?_
      rintro _ σ35 k36 ⟨v34, rfl, h37, h38⟩
      change Zm _ _ _ _ _ _ 51 _ [iV v34] _
      refine r_if_eq (t := 58) dX10_moves_51 rfl (r32_z h37)  (fun c39 => ?_) (fun c40 => ?_)
      · have h41 := h38.1 c39
        refine r_iconst dX10_moves_58 ?_
        refine r_istore dX10_moves_59 rfl rfl ?_
        refine r_aload_n dX10_moves_61 rfl ?_
        refine r_getP (a := 78) dX10_moves_62 kf_RX10_22 (zlt hn rfl) sh_73 rfl (k36.1 _ _ _ (zlt hn rfl) p_73_4) ?_
        refine r_iload_n dX10_moves_65 rfl ?_
        refine r_iload_n dX10_moves_66 rfl ?_
        refine r_iconst dX10_moves_67 ?_
        refine r_icmp_ne (t := 75) dX10_moves_68 rfl hx2 (r32c rfl) (fun c42 => ?_) (fun c43 => ?_)
        · have h44 := h41.1 c42
          refine r_aload_n dX10_moves_75 rfl ?_
          refine r_getI dX10_moves_76 kf_RX10_145 (zlt hn rfl) sh_73 (Or.inl rfl) rfl ?_
          refine r_iastore dX10_moves_79 (zlt hn rfl) sh_78 h4.1 h4.2 ?_
          have k45 := zok_i (i := x1.toNat) (x := gI σ35 73 18) k36 sh_78 (k36.2.1 _ _)
          refine r_aload_n dX10_moves_80 rfl ?_
          refine r_iload_n dX10_moves_81 rfl ?_
          refine n_callV (N := M_X10_keep) (As := [iV x1]) (st := []) dX10_moves_82 mk_X10_keep km_RX10_136 kd_X10_keep rfl (zlt hn rfl) sh_73 (q := (RX10, TX10, 52)) rfl rfl (zFits_rm d n n n (Nat.le_refl n)) (Nat.le_of_ble_eq_true rfl) rfl k45 h44 ?_
          rintro _ σ47 k48 ⟨rfl, h50⟩
          change Zm _ _ _ _ _ _ 85 _ [] _
          exact r_return dX10_moves_85 rfl ⟨k48, rfl, h50⟩
        · have h51 := h41.2 c43
          refine r_iconst dX10_moves_71 ?_
          refine r_goto (t := 79) dX10_moves_72 rfl ?_
          refine r_iastore dX10_moves_79 (zlt hn rfl) sh_78 h4.1 h4.2 ?_
          have k52 := zok_i (i := x1.toNat) (x := 0) k36 sh_78 (r32c rfl)
          refine r_aload_n dX10_moves_80 rfl ?_
          refine r_iload_n dX10_moves_81 rfl ?_
          refine n_callV (N := M_X10_keep) (As := [iV x1]) (st := []) dX10_moves_82 mk_X10_keep km_RX10_136 kd_X10_keep rfl (zlt hn rfl) sh_73 (q := (RX10, TX10, 52)) rfl rfl (zFits_rm d n n n (Nat.le_refl n)) (Nat.le_of_ble_eq_true rfl) rfl k52 h51 ?_
          rintro _ σ54 k55 ⟨rfl, h57⟩
          change Zm _ _ _ _ _ _ 85 _ [] _
          exact r_return dX10_moves_85 rfl ⟨k55, rfl, h57⟩
      · have h58 := h38.2 c40
        refine r_iconst dX10_moves_54 ?_
        refine r_goto (t := 59) dX10_moves_55 rfl ?_
        refine r_istore dX10_moves_59 rfl rfl ?_
        refine r_aload_n dX10_moves_61 rfl ?_
        refine r_getP (a := 78) dX10_moves_62 kf_RX10_22 (zlt hn rfl) sh_73 rfl (k36.1 _ _ _ (zlt hn rfl) p_73_4) ?_
        refine r_iload_n dX10_moves_65 rfl ?_
        refine r_iload_n dX10_moves_66 rfl ?_
        refine r_iconst dX10_moves_67 ?_
        refine r_icmp_ne (t := 75) dX10_moves_68 rfl hx2 (r32c rfl) (fun c59 => ?_) (fun c60 => ?_)
        · have h61 := h58.1 c59
          refine r_aload_n dX10_moves_75 rfl ?_
          refine r_getI dX10_moves_76 kf_RX10_145 (zlt hn rfl) sh_73 (Or.inl rfl) rfl ?_
          refine r_iastore dX10_moves_79 (zlt hn rfl) sh_78 h4.1 h4.2 ?_
          have k62 := zok_i (i := x1.toNat) (x := gI σ35 73 18) k36 sh_78 (k36.2.1 _ _)
          refine r_aload_n dX10_moves_80 rfl ?_
          refine r_iload_n dX10_moves_81 rfl ?_
          refine n_callV (N := M_X10_keep) (As := [iV x1]) (st := []) dX10_moves_82 mk_X10_keep km_RX10_136 kd_X10_keep rfl (zlt hn rfl) sh_73 (q := (RX10, TX10, 52)) rfl rfl (zFits_rm d n n n (Nat.le_refl n)) (Nat.le_of_ble_eq_true rfl) rfl k62 h61 ?_
          rintro _ σ64 k65 ⟨rfl, h67⟩
          change Zm _ _ _ _ _ _ 85 _ [] _
          exact r_return dX10_moves_85 rfl ⟨k65, rfl, h67⟩
        · have h68 := h58.2 c60
          refine r_iconst dX10_moves_71 ?_
          refine r_goto (t := 79) dX10_moves_72 rfl ?_
          refine r_iastore dX10_moves_79 (zlt hn rfl) sh_78 h4.1 h4.2 ?_
          have k69 := zok_i (i := x1.toNat) (x := 0) k36 sh_78 (r32c rfl)
          refine r_aload_n dX10_moves_80 rfl ?_
          refine r_iload_n dX10_moves_81 rfl ?_
          refine n_callV (N := M_X10_keep) (As := [iV x1]) (st := []) dX10_moves_82 mk_X10_keep km_RX10_136 kd_X10_keep rfl (zlt hn rfl) sh_73 (q := (RX10, TX10, 52)) rfl rfl (zFits_rm d n n n (Nat.le_refl n)) (Nat.le_of_ble_eq_true rfl) rfl k69 h68 ?_
          rintro _ σ71 k72 ⟨rfl, h74⟩
          change Zm _ _ _ _ _ _ 85 _ [] _
          exact r_return dX10_moves_85 rfl ⟨k72, rfl, h74⟩
  · have h75 := h.2 c2
    refine r_iconst dX10_moves_10 ?_
    refine r_goto (t := 15) dX10_moves_11 rfl ?_
    obtain ⟨h76, h77⟩ := h75
    refine r_iastore dX10_moves_15 (zlt hn rfl) sh_75 h76.1 h76.2 ?_
    have k78 := zok_i (i := x1.toNat) (x := 2) k0 sh_75 (r32c rfl)
    refine r_aload_n dX10_moves_16 rfl ?_
    refine r_getP (a := 76) dX10_moves_17 kf_RX10_16 (zlt hn rfl) sh_73 rfl (k78.1 _ _ _ (zlt hn rfl) p_73_2) ?_
    refine r_iload_n dX10_moves_20 rfl ?_
    refine r_iload_n dX10_moves_21 rfl ?_
    refine r_iastore dX10_moves_22 (zlt hn rfl) sh_76 h76.1 h76.2 ?_
    have k79 := zok_i (i := x1.toNat) (x := x3) k78 sh_76 hx3
    refine r_aload_n dX10_moves_23 rfl ?_
    refine r_getP (a := 77) dX10_moves_24 kf_RX10_19 (zlt hn rfl) sh_73 rfl (k79.1 _ _ _ (zlt hn rfl) p_73_3) ?_
    refine r_iload_n dX10_moves_27 rfl ?_
    refine r_iload_n dX10_moves_28 rfl ?_
    refine r_iastore dX10_moves_29 (zlt hn rfl) sh_77 h76.1 h76.2 ?_
    have k80 := zok_i (i := x1.toNat) (x := x2) k79 sh_77 hx2
    refine r_aload_n dX10_moves_30 rfl ?_
    refine r_aload_n dX10_moves_31 rfl ?_
    refine r_getP (a := 74) dX10_moves_32 kf_RX10_7 (zlt hn rfl) sh_73 rfl (k80.1 _ _ _ (zlt hn rfl) p_73_0) ?_
    refine r_iload_n dX10_moves_35 rfl ?_
    refine r_ialoadE dX10_moves_36 (zlt hn rfl) sh_74 h76.1 h76.2 ((gI_c (by decide)).trans ((gI_c (by decide)).trans (gI_c (by decide)))) ?_
    refine n_callV (N := M_X10_load) (As := [iV (gI σ 74 x1.toNat)]) (st := []) dX10_moves_37 mk_X10_load km_RX10_133 kd_X10_load rfl (zlt hn rfl) sh_73 (q := (RX10, TX10, 52)) rfl rfl (zFits_rm d n n n (Nat.le_refl n)) (Nat.le_of_ble_eq_true rfl) rfl k80 h77 ?_
    rintro _ σ82 k83 ⟨rfl, h85⟩
    change Zm _ _ _ _ _ _ 40 _ [] _
    refine r_iload_n dX10_moves_40 rfl ?_
    refine r_iconst dX10_moves_41 ?_
    refine r_icmp_eq (t := 54) dX10_moves_42 rfl hx2 (r32c rfl) (fun c86 => ?_) (fun c87 => ?_)
    · have h88 := h85.1 c86
      refine r_iconst dX10_moves_54 ?_
      refine r_goto (t := 59) dX10_moves_55 rfl ?_
      refine r_istore dX10_moves_59 rfl rfl ?_
      refine r_aload_n dX10_moves_61 rfl ?_
      refine r_getP (a := 78) dX10_moves_62 kf_RX10_22 (zlt hn rfl) sh_73 rfl (k83.1 _ _ _ (zlt hn rfl) p_73_4) ?_
      refine r_iload_n dX10_moves_65 rfl ?_
      refine r_iload_n dX10_moves_66 rfl ?_
      refine r_iconst dX10_moves_67 ?_
      refine r_icmp_ne (t := 75) dX10_moves_68 rfl hx2 (r32c rfl) (fun c89 => ?_) (fun c90 => ?_)
      · have h91 := h88.1 c89
        refine r_aload_n dX10_moves_75 rfl ?_
        refine r_getI dX10_moves_76 kf_RX10_145 (zlt hn rfl) sh_73 (Or.inl rfl) rfl ?_
        refine r_iastore dX10_moves_79 (zlt hn rfl) sh_78 h76.1 h76.2 ?_
        have k92 := zok_i (i := x1.toNat) (x := gI σ82 73 18) k83 sh_78 (k83.2.1 _ _)
        refine r_aload_n dX10_moves_80 rfl ?_
        refine r_iload_n dX10_moves_81 rfl ?_
        refine n_callV (N := M_X10_keep) (As := [iV x1]) (st := []) dX10_moves_82 mk_X10_keep km_RX10_136 kd_X10_keep rfl (zlt hn rfl) sh_73 (q := (RX10, TX10, 52)) rfl rfl (zFits_rm d n n n (Nat.le_refl n)) (Nat.le_of_ble_eq_true rfl) rfl k92 h91 ?_
        rintro _ σ94 k95 ⟨rfl, h97⟩
        change Zm _ _ _ _ _ _ 85 _ [] _
        exact r_return dX10_moves_85 rfl ⟨k95, rfl, h97⟩
      · have h98 := h88.2 c90
        refine r_iconst dX10_moves_71 ?_
        refine r_goto (t := 79) dX10_moves_72 rfl ?_
        refine r_iastore dX10_moves_79 (zlt hn rfl) sh_78 h76.1 h76.2 ?_
        have k99 := zok_i (i := x1.toNat) (x := 0) k83 sh_78 (r32c rfl)
        refine r_aload_n dX10_moves_80 rfl ?_
        refine r_iload_n dX10_moves_81 rfl ?_
        refine n_callV (N := M_X10_keep) (As := [iV x1]) (st := []) dX10_moves_82 mk_X10_keep km_RX10_136 kd_X10_keep rfl (zlt hn rfl) sh_73 (q := (RX10, TX10, 52)) rfl rfl (zFits_rm d n n n (Nat.le_refl n)) (Nat.le_of_ble_eq_true rfl) rfl k99 h98 ?_
        rintro _ σ101 k102 ⟨rfl, h104⟩
        change Zm _ _ _ _ _ _ 85 _ [] _
        exact r_return dX10_moves_85 rfl ⟨k102, rfl, h104⟩
    · have h105 := h85.2 c87
      refine r_aload_n dX10_moves_45 rfl ?_
      refine r_iload_n dX10_moves_46 rfl ?_
      refine r_iload_n dX10_moves_47 rfl ?_
      refine n_callV (N := M_X10_put) (As := [iV x2, iV x3]) (st := []) dX10_moves_48 mk_X10_put km_RX10_163 kd_X10_put rfl (zlt hn rfl) sh_73 (q := (RX10, TX10, 52)) rfl rfl (zFits_rm d n n n (Nat.le_refl n)) (Nat.le_of_ble_eq_true rfl) rfl k83 h105 ?_
      rintro _ σ107 k108 ⟨v106, rfl, h109, h110⟩
      change Zm _ _ _ _ _ _ 51 _ [iV v106] _
      refine r_if_eq (t := 58) dX10_moves_51 rfl (r32_z h109)  (fun c111 => ?_) (fun c112 => ?_)
      · have h113 := h110.1 c111
        refine r_iconst dX10_moves_58 ?_
        refine r_istore dX10_moves_59 rfl rfl ?_
        refine r_aload_n dX10_moves_61 rfl ?_
        refine r_getP (a := 78) dX10_moves_62 kf_RX10_22 (zlt hn rfl) sh_73 rfl (k108.1 _ _ _ (zlt hn rfl) p_73_4) ?_
        refine r_iload_n dX10_moves_65 rfl ?_
        refine r_iload_n dX10_moves_66 rfl ?_
        refine r_iconst dX10_moves_67 ?_
        refine r_icmp_ne (t := 75) dX10_moves_68 rfl hx2 (r32c rfl) (fun c114 => ?_) (fun c115 => ?_)
        · have h116 := h113.1 c114
          refine r_aload_n dX10_moves_75 rfl ?_
          refine r_getI dX10_moves_76 kf_RX10_145 (zlt hn rfl) sh_73 (Or.inl rfl) rfl ?_
          refine r_iastore dX10_moves_79 (zlt hn rfl) sh_78 h76.1 h76.2 ?_
          have k117 := zok_i (i := x1.toNat) (x := gI σ107 73 18) k108 sh_78 (k108.2.1 _ _)
          refine r_aload_n dX10_moves_80 rfl ?_
          refine r_iload_n dX10_moves_81 rfl ?_
          refine n_callV (N := M_X10_keep) (As := [iV x1]) (st := []) dX10_moves_82 mk_X10_keep km_RX10_136 kd_X10_keep rfl (zlt hn rfl) sh_73 (q := (RX10, TX10, 52)) rfl rfl (zFits_rm d n n n (Nat.le_refl n)) (Nat.le_of_ble_eq_true rfl) rfl k117 h116 ?_
          rintro _ σ119 k120 ⟨rfl, h122⟩
          change Zm _ _ _ _ _ _ 85 _ [] _
          exact r_return dX10_moves_85 rfl ⟨k120, rfl, h122⟩
        · have h123 := h113.2 c115
          refine r_iconst dX10_moves_71 ?_
          refine r_goto (t := 79) dX10_moves_72 rfl ?_
          refine r_iastore dX10_moves_79 (zlt hn rfl) sh_78 h76.1 h76.2 ?_
          have k124 := zok_i (i := x1.toNat) (x := 0) k108 sh_78 (r32c rfl)
          refine r_aload_n dX10_moves_80 rfl ?_
          refine r_iload_n dX10_moves_81 rfl ?_
          refine n_callV (N := M_X10_keep) (As := [iV x1]) (st := []) dX10_moves_82 mk_X10_keep km_RX10_136 kd_X10_keep rfl (zlt hn rfl) sh_73 (q := (RX10, TX10, 52)) rfl rfl (zFits_rm d n n n (Nat.le_refl n)) (Nat.le_of_ble_eq_true rfl) rfl k124 h123 ?_
          rintro _ σ126 k127 ⟨rfl, h129⟩
          change Zm _ _ _ _ _ _ 85 _ [] _
          exact r_return dX10_moves_85 rfl ⟨k127, rfl, h129⟩
      · have h130 := h110.2 c112
        refine r_iconst dX10_moves_54 ?_
        refine r_goto (t := 59) dX10_moves_55 rfl ?_
        refine r_istore dX10_moves_59 rfl rfl ?_
        refine r_aload_n dX10_moves_61 rfl ?_
        refine r_getP (a := 78) dX10_moves_62 kf_RX10_22 (zlt hn rfl) sh_73 rfl (k108.1 _ _ _ (zlt hn rfl) p_73_4) ?_
        refine r_iload_n dX10_moves_65 rfl ?_
        refine r_iload_n dX10_moves_66 rfl ?_
        refine r_iconst dX10_moves_67 ?_
        refine r_icmp_ne (t := 75) dX10_moves_68 rfl hx2 (r32c rfl) (fun c131 => ?_) (fun c132 => ?_)
        · have h133 := h130.1 c131
          refine r_aload_n dX10_moves_75 rfl ?_
          refine r_getI dX10_moves_76 kf_RX10_145 (zlt hn rfl) sh_73 (Or.inl rfl) rfl ?_
          refine r_iastore dX10_moves_79 (zlt hn rfl) sh_78 h76.1 h76.2 ?_
          have k134 := zok_i (i := x1.toNat) (x := gI σ107 73 18) k108 sh_78 (k108.2.1 _ _)
          refine r_aload_n dX10_moves_80 rfl ?_
          refine r_iload_n dX10_moves_81 rfl ?_
          refine n_callV (N := M_X10_keep) (As := [iV x1]) (st := []) dX10_moves_82 mk_X10_keep km_RX10_136 kd_X10_keep rfl (zlt hn rfl) sh_73 (q := (RX10, TX10, 52)) rfl rfl (zFits_rm d n n n (Nat.le_refl n)) (Nat.le_of_ble_eq_true rfl) rfl k134 h133 ?_
          rintro _ σ136 k137 ⟨rfl, h139⟩
          change Zm _ _ _ _ _ _ 85 _ [] _
          exact r_return dX10_moves_85 rfl ⟨k137, rfl, h139⟩
        · have h140 := h130.2 c132
          refine r_iconst dX10_moves_71 ?_
          refine r_goto (t := 79) dX10_moves_72 rfl ?_
          refine r_iastore dX10_moves_79 (zlt hn rfl) sh_78 h76.1 h76.2 ?_
          have k141 := zok_i (i := x1.toNat) (x := 0) k108 sh_78 (r32c rfl)
          refine r_aload_n dX10_moves_80 rfl ?_
          refine r_iload_n dX10_moves_81 rfl ?_
          refine n_callV (N := M_X10_keep) (As := [iV x1]) (st := []) dX10_moves_82 mk_X10_keep km_RX10_136 kd_X10_keep rfl (zlt hn rfl) sh_73 (q := (RX10, TX10, 52)) rfl rfl (zFits_rm d n n n (Nat.le_refl n)) (Nat.le_of_ble_eq_true rfl) rfl k141 h140 ?_
          rintro _ σ143 k144 ⟨rfl, h146⟩
          change Zm _ _ _ _ _ _ 85 _ [] _
          exact r_return dX10_moves_85 rfl ⟨k144, rfl, h146⟩
/-! StoneRoomModel.back -/
theorem dX10_back_0 : decode M_X10_back.2.1 0 = .ok (.iload_n 1, 1) := by decide +kernel
theorem dX10_back_1 : decode M_X10_back.2.1 1 = .ok (.ifCond .ge 5, 3) := by decide +kernel
theorem dX10_back_4 : decode M_X10_back.2.1 4 = .ok (.iconst (-1), 1) := by decide +kernel
theorem dX10_back_5 : decode M_X10_back.2.1 5 = .ok (.ireturn, 1) := by decide +kernel
theorem dX10_back_6 : decode M_X10_back.2.1 6 = .ok (.iconst 0, 1) := by decide +kernel
theorem dX10_back_7 : decode M_X10_back.2.1 7 = .ok (.istore_n 2, 1) := by decide +kernel
theorem dX10_back_8 : decode M_X10_back.2.1 8 = .ok (.iload_n 2, 1) := by decide +kernel
theorem dX10_back_9 : decode M_X10_back.2.1 9 = .ok (.iload_n 1, 1) := by decide +kernel
theorem dX10_back_10 : decode M_X10_back.2.1 10 = .ok (.if_icmp .ge 34, 3) := by decide +kernel
theorem dX10_back_13 : decode M_X10_back.2.1 13 = .ok (.aload_n 0, 1) := by decide +kernel
theorem dX10_back_14 : decode M_X10_back.2.1 14 = .ok (.getfield 7, 3) := by decide +kernel
theorem dX10_back_17 : decode M_X10_back.2.1 17 = .ok (.aload_n 0, 1) := by decide +kernel
theorem dX10_back_18 : decode M_X10_back.2.1 18 = .ok (.getfield 173, 3) := by decide +kernel
theorem dX10_back_21 : decode M_X10_back.2.1 21 = .ok (.iaload, 1) := by decide +kernel
theorem dX10_back_22 : decode M_X10_back.2.1 22 = .ok (.ifCond .lt 22, 3) := by decide +kernel
theorem dX10_back_25 : decode M_X10_back.2.1 25 = .ok (.aload_n 0, 1) := by decide +kernel
theorem dX10_back_26 : decode M_X10_back.2.1 26 = .ok (.aload_n 0, 1) := by decide +kernel
theorem dX10_back_27 : decode M_X10_back.2.1 27 = .ok (.getfield 7, 3) := by decide +kernel
theorem dX10_back_30 : decode M_X10_back.2.1 30 = .ok (.aload_n 0, 1) := by decide +kernel
theorem dX10_back_31 : decode M_X10_back.2.1 31 = .ok (.getfield 173, 3) := by decide +kernel
theorem dX10_back_34 : decode M_X10_back.2.1 34 = .ok (.iaload, 1) := by decide +kernel
theorem dX10_back_35 : decode M_X10_back.2.1 35 = .ok (.putfield 173, 3) := by decide +kernel
theorem dX10_back_38 : decode M_X10_back.2.1 38 = .ok (.iinc 2 1, 3) := by decide +kernel
theorem dX10_back_41 : decode M_X10_back.2.1 41 = .ok (.goto (-33), 3) := by decide +kernel
theorem dX10_back_44 : decode M_X10_back.2.1 44 = .ok (.iload_n 2, 1) := by decide +kernel
theorem dX10_back_45 : decode M_X10_back.2.1 45 = .ok (.ifCond .le 7, 3) := by decide +kernel
theorem dX10_back_48 : decode M_X10_back.2.1 48 = .ok (.aload_n 0, 1) := by decide +kernel
theorem dX10_back_49 : decode M_X10_back.2.1 49 = .ok (.invokevirtual 186, 3) := by decide +kernel
theorem dX10_back_52 : decode M_X10_back.2.1 52 = .ok (.iload_n 2, 1) := by decide +kernel
theorem dX10_back_53 : decode M_X10_back.2.1 53 = .ok (.ireturn, 1) := by decide +kernel
def L_X10_back_8 (X : ZX) (d n : Nat) (P : Option Value → ZSto → Prop) (x1 : Int) (x2 : Int) (σ : ZSto) : Prop := R32 x1 → R32 x2 → ZOk n σ → Zn X M_X10_back d n P 8 [some (.ref (zB X + 73)), some (iV x1), some (iV x2)] [] σ
theorem w_X10_back {X : ZX} {d n : Nat} {P : Int → ZSto → Prop} {x1 : Int} {σ : ZSto} (hn : 104 ≤ n)  (hx1 : R32 x1)
    (h : (0 ≤ x1 → L_X10_back_8 X d n (zpI P) x1 0 σ) ∧ (¬ (0 ≤ x1) → P ((-1)) σ)) :
    ZkI X M_X10_back (d + 1) n [.ref (zB X + 73), iV x1] σ P := by
  refine zk_of (ls := [some (.ref (zB X + 73)), some (iV x1), none]) pl_RX10 (Nat.le_of_ble_eq_true rfl) rfl (fun k0 => ?_)
  unfold Zn
  refine r_iload_n dX10_back_0 rfl ?_
  refine r_if_ge (t := 6) dX10_back_1 rfl hx1  (fun c1 => ?_) (fun c2 => ?_)
  · have h3 := h.1 c1
    refine r_iconst dX10_back_6 ?_
    refine r_istore_n dX10_back_7 rfl rfl ?_
    exact r_mask [true, true, true] rfl (h3 hx1 (r32c rfl) k0)
  · have h4 := h.2 c2
    refine r_iconst dX10_back_4 ?_
    exact r_ireturn dX10_back_5 rfl ⟨k0, _, rfl, (r32c rfl), h4⟩
theorem b_X10_back_8 {X : ZX} {d n : Nat} {P : Int → ZSto → Prop} {x1 : Int} {x2 : Int} {σ : ZSto} (hn : 104 ≤ n) 
    (h : (x1 ≤ x2 → (x2 ≤ 0 → P x2 σ) ∧ (¬ (x2 ≤ 0) → ZkV X M_X10_clears d n [.ref (zB X + 73)] σ (fun σ9 => P x2 σ9))) ∧ (¬ (x1 ≤ x2) → (0 ≤ gI σ 73 11 ∧ gI σ 73 11 < 500) ∧ (gI σ 74 ((gI σ 73 11).toNat) < 0 → (x2 ≤ 0 → P x2 σ) ∧ (¬ (x2 ≤ 0) → ZkV X M_X10_clears d n [.ref (zB X + 73)] σ (fun σ24 => P x2 σ24))) ∧ (¬ (gI σ 74 ((gI σ 73 11).toNat) < 0) → R32 (x2 + 1) ∧ L_X10_back_8 X d n (zpI P) x1 (x2 + 1) (sI σ 73 11 (gI σ 74 ((gI σ 73 11).toNat)))))) :
    L_X10_back_8 X d n (zpI P) x1 x2 σ := by
  intro hx1 hx2 k0
  unfold Zn
  refine r_iload_n dX10_back_8 rfl ?_
  refine r_iload_n dX10_back_9 rfl ?_
  refine r_icmp_ge (t := 44) dX10_back_10 rfl hx2 hx1 (fun c1 => ?_) (fun c2 => ?_)
  · have h3 := h.1 c1
    refine r_iload_n dX10_back_44 rfl ?_
    refine r_if_le (t := 52) dX10_back_45 rfl hx2  (fun c4 => ?_) (fun c5 => ?_)
    · have h6 := h3.1 c4
      refine r_iload_n dX10_back_52 rfl ?_
      exact r_ireturn dX10_back_53 rfl ⟨k0, _, rfl, hx2, h6⟩
    · have h7 := h3.2 c5
      refine r_aload_n dX10_back_48 rfl ?_
      refine n_callV (N := M_X10_clears) (As := []) (st := []) dX10_back_49 mk_X10_clears km_RX10_186 kd_X10_clears rfl (zlt hn rfl) sh_73 (q := (RX10, TX10, 52)) rfl rfl (zFits_rm d n n n (Nat.le_refl n)) (Nat.le_of_ble_eq_true rfl) rfl k0 h7 ?_
      rintro _ σ9 k10 ⟨rfl, h12⟩
      change Zm _ _ _ _ _ _ 52 _ [] _
      refine r_iload_n dX10_back_52 rfl ?_
      exact r_ireturn dX10_back_53 rfl ⟨k10, _, rfl, hx2, h12⟩
  · have h13 := h.2 c2
    refine r_aload_n dX10_back_13 rfl ?_
    refine r_getP (a := 74) dX10_back_14 kf_RX10_7 (zlt hn rfl) sh_73 rfl (k0.1 _ _ _ (zlt hn rfl) p_73_0) ?_
    refine r_aload_n dX10_back_17 rfl ?_
    refine r_getI dX10_back_18 kf_RX10_173 (zlt hn rfl) sh_73 (Or.inl rfl) rfl ?_
    obtain ⟨h14, h15⟩ := h13
    refine r_ialoadE dX10_back_21 (zlt hn rfl) sh_74 h14.1 h14.2 rfl ?_
    refine r_if_lt (t := 44) dX10_back_22 rfl (k0.2.1 _ _)  (fun c16 => ?_) (fun c17 => ?_)
    · have h18 := h15.1 c16
      refine r_iload_n dX10_back_44 rfl ?_
      refine r_if_le (t := 52) dX10_back_45 rfl hx2  (fun c19 => ?_) (fun c20 => ?_)
      · have h21 := h18.1 c19
        refine r_iload_n dX10_back_52 rfl ?_
        exact r_ireturn dX10_back_53 rfl ⟨k0, _, rfl, hx2, h21⟩
      · have h22 := h18.2 c20
        refine r_aload_n dX10_back_48 rfl ?_
        refine n_callV (N := M_X10_clears) (As := []) (st := []) dX10_back_49 mk_X10_clears km_RX10_186 kd_X10_clears rfl (zlt hn rfl) sh_73 (q := (RX10, TX10, 52)) rfl rfl (zFits_rm d n n n (Nat.le_refl n)) (Nat.le_of_ble_eq_true rfl) rfl k0 h22 ?_
        rintro _ σ24 k25 ⟨rfl, h27⟩
        change Zm _ _ _ _ _ _ 52 _ [] _
        refine r_iload_n dX10_back_52 rfl ?_
        exact r_ireturn dX10_back_53 rfl ⟨k25, _, rfl, hx2, h27⟩
    · have h28 := h15.2 c17
      refine r_aload_n dX10_back_25 rfl ?_
      refine r_aload_n dX10_back_26 rfl ?_
      refine r_getP (a := 74) dX10_back_27 kf_RX10_7 (zlt hn rfl) sh_73 rfl (k0.1 _ _ _ (zlt hn rfl) p_73_0) ?_
      refine r_aload_n dX10_back_30 rfl ?_
      refine r_getI dX10_back_31 kf_RX10_173 (zlt hn rfl) sh_73 (Or.inl rfl) rfl ?_
      refine r_ialoadE dX10_back_34 (zlt hn rfl) sh_74 h14.1 h14.2 rfl ?_
      refine r_putI dX10_back_35 kf_RX10_173 (zlt hn rfl) sh_73 rfl (Or.inl rfl) ?_
      have k29 := zok_o (i := 11) (x := gI σ 74 ((gI σ 73 11).toNat)) k0 sh_73 (k0.2.1 _ _)
      refine r_iinc dX10_back_38 rfl rfl rfl ?_
      refine r_goto (t := 8) dX10_back_41 rfl ?_
      obtain ⟨h30, h31⟩ := h28
      exact r_mask [true, true, true] rfl (h31 hx1 h30 k29)
/-! StoneRoomModel.on -/
theorem dX10_on_0 : decode M_X10_on.2.1 0 = .ok (.iconst 0, 1) := by decide +kernel
theorem dX10_on_1 : decode M_X10_on.2.1 1 = .ok (.istore_n 2, 1) := by decide +kernel
theorem dX10_on_2 : decode M_X10_on.2.1 2 = .ok (.aload_n 0, 1) := by decide +kernel
theorem dX10_on_3 : decode M_X10_on.2.1 3 = .ok (.getfield 173, 3) := by decide +kernel
theorem dX10_on_6 : decode M_X10_on.2.1 6 = .ok (.iconst 1, 1) := by decide +kernel
theorem dX10_on_7 : decode M_X10_on.2.1 7 = .ok (.iadd, 1) := by decide +kernel
theorem dX10_on_8 : decode M_X10_on.2.1 8 = .ok (.istore_n 3, 1) := by decide +kernel
theorem dX10_on_9 : decode M_X10_on.2.1 9 = .ok (.iload_n 3, 1) := by decide +kernel
theorem dX10_on_10 : decode M_X10_on.2.1 10 = .ok (.sipush 250, 3) := by decide +kernel
theorem dX10_on_13 : decode M_X10_on.2.1 13 = .ok (.aload_n 0, 1) := by decide +kernel
theorem dX10_on_14 : decode M_X10_on.2.1 14 = .ok (.getfield 170, 3) := by decide +kernel
theorem dX10_on_17 : decode M_X10_on.2.1 17 = .ok (.imul, 1) := by decide +kernel
theorem dX10_on_18 : decode M_X10_on.2.1 18 = .ok (.aload_n 0, 1) := by decide +kernel
theorem dX10_on_19 : decode M_X10_on.2.1 19 = .ok (.getfield 33, 3) := by decide +kernel
theorem dX10_on_22 : decode M_X10_on.2.1 22 = .ok (.aload_n 0, 1) := by decide +kernel
theorem dX10_on_23 : decode M_X10_on.2.1 23 = .ok (.getfield 170, 3) := by decide +kernel
theorem dX10_on_26 : decode M_X10_on.2.1 26 = .ok (.iaload, 1) := by decide +kernel
theorem dX10_on_27 : decode M_X10_on.2.1 27 = .ok (.iadd, 1) := by decide +kernel
theorem dX10_on_28 : decode M_X10_on.2.1 28 = .ok (.if_icmp .ge 44, 3) := by decide +kernel
theorem dX10_on_31 : decode M_X10_on.2.1 31 = .ok (.aload_n 0, 1) := by decide +kernel
theorem dX10_on_32 : decode M_X10_on.2.1 32 = .ok (.getfield 7, 3) := by decide +kernel
theorem dX10_on_35 : decode M_X10_on.2.1 35 = .ok (.iload_n 3, 1) := by decide +kernel
theorem dX10_on_36 : decode M_X10_on.2.1 36 = .ok (.iaload, 1) := by decide +kernel
theorem dX10_on_37 : decode M_X10_on.2.1 37 = .ok (.aload_n 0, 1) := by decide +kernel
theorem dX10_on_38 : decode M_X10_on.2.1 38 = .ok (.getfield 173, 3) := by decide +kernel
theorem dX10_on_41 : decode M_X10_on.2.1 41 = .ok (.if_icmp .eq 6, 3) := by decide +kernel
theorem dX10_on_44 : decode M_X10_on.2.1 44 = .ok (.goto 22, 3) := by decide +kernel
theorem dX10_on_47 : decode M_X10_on.2.1 47 = .ok (.iload_n 2, 1) := by decide +kernel
theorem dX10_on_48 : decode M_X10_on.2.1 48 = .ok (.iload_n 1, 1) := by decide +kernel
theorem dX10_on_49 : decode M_X10_on.2.1 49 = .ok (.if_icmp .ne 14, 3) := by decide +kernel
theorem dX10_on_52 : decode M_X10_on.2.1 52 = .ok (.aload_n 0, 1) := by decide +kernel
theorem dX10_on_53 : decode M_X10_on.2.1 53 = .ok (.iload_n 3, 1) := by decide +kernel
theorem dX10_on_54 : decode M_X10_on.2.1 54 = .ok (.putfield 173, 3) := by decide +kernel
theorem dX10_on_57 : decode M_X10_on.2.1 57 = .ok (.aload_n 0, 1) := by decide +kernel
theorem dX10_on_58 : decode M_X10_on.2.1 58 = .ok (.invokevirtual 186, 3) := by decide +kernel
theorem dX10_on_61 : decode M_X10_on.2.1 61 = .ok (.iconst 1, 1) := by decide +kernel
theorem dX10_on_62 : decode M_X10_on.2.1 62 = .ok (.ireturn, 1) := by decide +kernel
theorem dX10_on_63 : decode M_X10_on.2.1 63 = .ok (.iinc 2 1, 3) := by decide +kernel
theorem dX10_on_66 : decode M_X10_on.2.1 66 = .ok (.iinc 3 1, 3) := by decide +kernel
theorem dX10_on_69 : decode M_X10_on.2.1 69 = .ok (.goto (-60), 3) := by decide +kernel
theorem dX10_on_72 : decode M_X10_on.2.1 72 = .ok (.iconst 0, 1) := by decide +kernel
theorem dX10_on_73 : decode M_X10_on.2.1 73 = .ok (.ireturn, 1) := by decide +kernel
def L_X10_on_9 (X : ZX) (d n : Nat) (P : Option Value → ZSto → Prop) (x1 : Int) (x2 : Int) (x3 : Int) (σ : ZSto) : Prop := R32 x1 → R32 x2 → R32 x3 → ZOk n σ → Zn X M_X10_on d n P 9 [some (.ref (zB X + 73)), some (iV x1), some (iV x2), some (iV x3)] [] σ
theorem w_X10_on {X : ZX} {d n : Nat} {P : Int → ZSto → Prop} {x1 : Int} {σ : ZSto} (hn : 104 ≤ n)  (hx1 : R32 x1)
    (h : (∀ y1 : Int, y1 = (gI σ 73 11) + 1 → R32 y1 ∧ L_X10_on_9 X d n (zpZ P) x1 0 y1 σ)) :
    ZkZ X M_X10_on (d + 1) n [.ref (zB X + 73), iV x1] σ P := by
  refine zk_of (ls := [some (.ref (zB X + 73)), some (iV x1), none, none]) pl_RX10 (Nat.le_of_ble_eq_true rfl) rfl (fun k0 => ?_)
  unfold Zn
  refine r_iconst dX10_on_0 ?_
  refine r_istore_n dX10_on_1 rfl rfl ?_
  refine r_aload_n dX10_on_2 rfl ?_
  refine r_getI dX10_on_3 kf_RX10_173 (zlt hn rfl) sh_73 (Or.inl rfl) rfl ?_
  refine r_iconst dX10_on_6 ?_
  refine r_iadd dX10_on_7 ?_
  refine r_name (fun y1 e2 => ?_)
  have h3 := h y1 e2
  refine r_istore_n dX10_on_8 rfl rfl ?_
  obtain ⟨h4, h5⟩ := h3
  exact r_mask [true, true, true, true] rfl (h5 hx1 (r32c rfl) h4 k0)
theorem b_X10_on_9 {X : ZX} {d n : Nat} {P : Int → ZSto → Prop} {x1 : Int} {x2 : Int} {x3 : Int} {σ : ZSto} (hn : 104 ≤ n) 
    (h : (0 ≤ gI σ 73 10 ∧ gI σ 73 10 < 2) ∧ R32 ((250 * (gI σ 73 10)) + (gI σ 81 ((gI σ 73 10).toNat))) ∧ ((250 * (gI σ 73 10)) + (gI σ 81 ((gI σ 73 10).toNat)) ≤ x3 → P 0 σ) ∧ (¬ ((250 * (gI σ 73 10)) + (gI σ 81 ((gI σ 73 10).toNat)) ≤ x3) → (0 ≤ x3 ∧ x3 < 500) ∧ (gI σ 74 x3.toNat = gI σ 73 11 → (¬ x2 = x1 → R32 (x2 + 1) ∧ R32 (x3 + 1) ∧ L_X10_on_9 X d n (zpZ P) x1 (x2 + 1) (x3 + 1) σ) ∧ (x2 = x1 → ZkV X M_X10_clears d n [.ref (zB X + 73)] (sI σ 73 11 x3) (fun σ24 => P 1 σ24))) ∧ (¬ (gI σ 74 x3.toNat = gI σ 73 11) → R32 (x3 + 1) ∧ L_X10_on_9 X d n (zpZ P) x1 x2 (x3 + 1) σ))) :
    L_X10_on_9 X d n (zpZ P) x1 x2 x3 σ := by
  intro hx1 hx2 hx3 k0
  unfold Zn
  refine r_iload_n dX10_on_9 rfl ?_
  refine r_sipush dX10_on_10 rfl ?_
  refine r_aload_n dX10_on_13 rfl ?_
  refine r_getI dX10_on_14 kf_RX10_170 (zlt hn rfl) sh_73 (Or.inl rfl) rfl ?_
  refine r_imul dX10_on_17 ?_
  refine r_aload_n dX10_on_18 rfl ?_
  refine r_getP (a := 81) dX10_on_19 kf_RX10_33 (zlt hn rfl) sh_73 rfl (k0.1 _ _ _ (zlt hn rfl) p_73_7) ?_
  refine r_aload_n dX10_on_22 rfl ?_
  refine r_getI dX10_on_23 kf_RX10_170 (zlt hn rfl) sh_73 (Or.inl rfl) rfl ?_
  obtain ⟨h1, h2⟩ := h
  refine r_ialoadE dX10_on_26 (zlt hn rfl) sh_81 h1.1 h1.2 rfl ?_
  refine r_iadd dX10_on_27 ?_
  obtain ⟨h3, h4⟩ := h2
  refine r_icmp_ge (t := 72) dX10_on_28 rfl hx3 h3 (fun c5 => ?_) (fun c6 => ?_)
  · have h7 := h4.1 c5
    refine r_iconst dX10_on_72 ?_
    exact r_zreturn dX10_on_73 rfl (Or.inl rfl) ⟨k0, _, rfl, (Or.inl rfl), h7⟩
  · have h8 := h4.2 c6
    refine r_aload_n dX10_on_31 rfl ?_
    refine r_getP (a := 74) dX10_on_32 kf_RX10_7 (zlt hn rfl) sh_73 rfl (k0.1 _ _ _ (zlt hn rfl) p_73_0) ?_
    refine r_iload_n dX10_on_35 rfl ?_
    obtain ⟨h9, h10⟩ := h8
    refine r_ialoadE dX10_on_36 (zlt hn rfl) sh_74 h9.1 h9.2 rfl ?_
    refine r_aload_n dX10_on_37 rfl ?_
    refine r_getI dX10_on_38 kf_RX10_173 (zlt hn rfl) sh_73 (Or.inl rfl) rfl ?_
    refine r_icmp_eq (t := 47) dX10_on_41 rfl (k0.2.1 _ _) (k0.2.1 _ _) (fun c11 => ?_) (fun c12 => ?_)
    · have h13 := h10.1 c11
      refine r_iload_n dX10_on_47 rfl ?_
      refine r_iload_n dX10_on_48 rfl ?_
      refine r_icmp_ne (t := 63) dX10_on_49 rfl hx2 hx1 (fun c14 => ?_) (fun c15 => ?_)
      · have h16 := h13.1 c14
        refine r_iinc dX10_on_63 rfl rfl rfl ?_
        refine r_iinc dX10_on_66 rfl rfl rfl ?_
        refine r_goto (t := 9) dX10_on_69 rfl ?_
        obtain ⟨h17, h18⟩ := h16
        obtain ⟨h19, h20⟩ := h18
        exact r_mask [true, true, true, true] rfl (h20 hx1 h17 h19 k0)
      · have h21 := h13.2 c15
        refine r_aload_n dX10_on_52 rfl ?_
        refine r_iload_n dX10_on_53 rfl ?_
        refine r_putI dX10_on_54 kf_RX10_173 (zlt hn rfl) sh_73 rfl (Or.inl rfl) ?_
        have k22 := zok_o (i := 11) (x := x3) k0 sh_73 hx3
        refine r_aload_n dX10_on_57 rfl ?_
        refine n_callV (N := M_X10_clears) (As := []) (st := []) dX10_on_58 mk_X10_clears km_RX10_186 kd_X10_clears rfl (zlt hn rfl) sh_73 (q := (RX10, TX10, 52)) rfl rfl (zFits_rm d n n n (Nat.le_refl n)) (Nat.le_of_ble_eq_true rfl) rfl k22 h21 ?_
        rintro _ σ24 k25 ⟨rfl, h27⟩
        change Zm _ _ _ _ _ _ 61 _ [] _
        refine r_iconst dX10_on_61 ?_
        exact r_zreturn dX10_on_62 rfl (Or.inr rfl) ⟨k25, _, rfl, (Or.inr rfl), h27⟩
    · have h28 := h10.2 c12
      refine r_goto (t := 66) dX10_on_44 rfl ?_
      refine r_iinc dX10_on_66 rfl rfl rfl ?_
      refine r_goto (t := 9) dX10_on_69 rfl ?_
      obtain ⟨h29, h30⟩ := h28
      exact r_mask [true, true, true, true] rfl (h30 hx1 hx2 h29 k0)
/-! StoneRoomModel.to -/
theorem dX10_to_0 : decode M_X10_to.2.1 0 = .ok (.iload_n 1, 1) := by decide +kernel
theorem dX10_to_1 : decode M_X10_to.2.1 1 = .ok (.ifCond .lt 16, 3) := by decide +kernel
theorem dX10_to_4 : decode M_X10_to.2.1 4 = .ok (.iload_n 1, 1) := by decide +kernel
theorem dX10_to_5 : decode M_X10_to.2.1 5 = .ok (.aload_n 0, 1) := by decide +kernel
theorem dX10_to_6 : decode M_X10_to.2.1 6 = .ok (.getfield 33, 3) := by decide +kernel
theorem dX10_to_9 : decode M_X10_to.2.1 9 = .ok (.aload_n 0, 1) := by decide +kernel
theorem dX10_to_10 : decode M_X10_to.2.1 10 = .ok (.getfield 170, 3) := by decide +kernel
theorem dX10_to_13 : decode M_X10_to.2.1 13 = .ok (.iaload, 1) := by decide +kernel
theorem dX10_to_14 : decode M_X10_to.2.1 14 = .ok (.if_icmp .lt 5, 3) := by decide +kernel
theorem dX10_to_17 : decode M_X10_to.2.1 17 = .ok (.iconst 0, 1) := by decide +kernel
theorem dX10_to_18 : decode M_X10_to.2.1 18 = .ok (.ireturn, 1) := by decide +kernel
theorem dX10_to_19 : decode M_X10_to.2.1 19 = .ok (.aload_n 0, 1) := by decide +kernel
theorem dX10_to_20 : decode M_X10_to.2.1 20 = .ok (.sipush 250, 3) := by decide +kernel
theorem dX10_to_23 : decode M_X10_to.2.1 23 = .ok (.aload_n 0, 1) := by decide +kernel
theorem dX10_to_24 : decode M_X10_to.2.1 24 = .ok (.getfield 170, 3) := by decide +kernel
theorem dX10_to_27 : decode M_X10_to.2.1 27 = .ok (.imul, 1) := by decide +kernel
theorem dX10_to_28 : decode M_X10_to.2.1 28 = .ok (.iload_n 1, 1) := by decide +kernel
theorem dX10_to_29 : decode M_X10_to.2.1 29 = .ok (.iadd, 1) := by decide +kernel
theorem dX10_to_30 : decode M_X10_to.2.1 30 = .ok (.putfield 173, 3) := by decide +kernel
theorem dX10_to_33 : decode M_X10_to.2.1 33 = .ok (.aload_n 0, 1) := by decide +kernel
theorem dX10_to_34 : decode M_X10_to.2.1 34 = .ok (.invokevirtual 186, 3) := by decide +kernel
theorem dX10_to_37 : decode M_X10_to.2.1 37 = .ok (.iconst 1, 1) := by decide +kernel
theorem dX10_to_38 : decode M_X10_to.2.1 38 = .ok (.ireturn, 1) := by decide +kernel
theorem w_X10_to {X : ZX} {d n : Nat} {P : Int → ZSto → Prop} {x1 : Int} {σ : ZSto} (hn : 104 ≤ n)  (hx1 : R32 x1)
    (h : (x1 < 0 → P 0 σ) ∧ (¬ (x1 < 0) → (0 ≤ gI σ 73 10 ∧ gI σ 73 10 < 2) ∧ (x1 < gI σ 81 ((gI σ 73 10).toNat) → R32 ((250 * (gI σ 73 10)) + x1) ∧ ZkV X M_X10_clears d n [.ref (zB X + 73)] (sI σ 73 11 ((250 * (gI σ 73 10)) + x1)) (fun σ14 => P 1 σ14)) ∧ (¬ (x1 < gI σ 81 ((gI σ 73 10).toNat)) → P 0 σ))) :
    ZkZ X M_X10_to (d + 1) n [.ref (zB X + 73), iV x1] σ P := by
  refine zk_of (ls := [some (.ref (zB X + 73)), some (iV x1)]) pl_RX10 (Nat.le_of_ble_eq_true rfl) rfl (fun k0 => ?_)
  unfold Zn
  refine r_iload_n dX10_to_0 rfl ?_
  refine r_if_lt (t := 17) dX10_to_1 rfl hx1  (fun c1 => ?_) (fun c2 => ?_)
  · have h3 := h.1 c1
    refine r_iconst dX10_to_17 ?_
    exact r_zreturn dX10_to_18 rfl (Or.inl rfl) ⟨k0, _, rfl, (Or.inl rfl), h3⟩
  · have h4 := h.2 c2
    refine r_iload_n dX10_to_4 rfl ?_
    refine r_aload_n dX10_to_5 rfl ?_
    refine r_getP (a := 81) dX10_to_6 kf_RX10_33 (zlt hn rfl) sh_73 rfl (k0.1 _ _ _ (zlt hn rfl) p_73_7) ?_
    refine r_aload_n dX10_to_9 rfl ?_
    refine r_getI dX10_to_10 kf_RX10_170 (zlt hn rfl) sh_73 (Or.inl rfl) rfl ?_
    obtain ⟨h5, h6⟩ := h4
    refine r_ialoadE dX10_to_13 (zlt hn rfl) sh_81 h5.1 h5.2 rfl ?_
    refine r_icmp_lt (t := 19) dX10_to_14 rfl hx1 (k0.2.1 _ _) (fun c7 => ?_) (fun c8 => ?_)
    · have h9 := h6.1 c7
      refine r_aload_n dX10_to_19 rfl ?_
      refine r_sipush dX10_to_20 rfl ?_
      refine r_aload_n dX10_to_23 rfl ?_
      refine r_getI dX10_to_24 kf_RX10_170 (zlt hn rfl) sh_73 (Or.inl rfl) rfl ?_
      refine r_imul dX10_to_27 ?_
      refine r_iload_n dX10_to_28 rfl ?_
      refine r_iadd dX10_to_29 ?_
      obtain ⟨h10, h11⟩ := h9
      refine r_putI dX10_to_30 kf_RX10_173 (zlt hn rfl) sh_73 rfl (Or.inl rfl) ?_
      have k12 := zok_o (i := 11) (x := (250 * (gI σ 73 10)) + x1) k0 sh_73 h10
      refine r_aload_n dX10_to_33 rfl ?_
      refine n_callV (N := M_X10_clears) (As := []) (st := []) dX10_to_34 mk_X10_clears km_RX10_186 kd_X10_clears rfl (zlt hn rfl) sh_73 (q := (RX10, TX10, 52)) rfl rfl (zFits_rm d n n n (Nat.le_refl n)) (Nat.le_of_ble_eq_true rfl) rfl k12 h11 ?_
      rintro _ σ14 k15 ⟨rfl, h17⟩
      change Zm _ _ _ _ _ _ 37 _ [] _
      refine r_iconst dX10_to_37 ?_
      exact r_zreturn dX10_to_38 rfl (Or.inr rfl) ⟨k15, _, rfl, (Or.inr rfl), h17⟩
    · have h18 := h6.2 c8
      refine r_iconst dX10_to_17 ?_
      exact r_zreturn dX10_to_18 rfl (Or.inl rfl) ⟨k0, _, rfl, (Or.inl rfl), h18⟩
/-! StoneRoomModel.node -/
theorem dX10_node_0 : decode M_X10_node.2.1 0 = .ok (.iload_n 1, 1) := by decide +kernel
theorem dX10_node_1 : decode M_X10_node.2.1 1 = .ok (.ifCond .lt 16, 3) := by decide +kernel
theorem dX10_node_4 : decode M_X10_node.2.1 4 = .ok (.iload_n 1, 1) := by decide +kernel
theorem dX10_node_5 : decode M_X10_node.2.1 5 = .ok (.aload_n 0, 1) := by decide +kernel
theorem dX10_node_6 : decode M_X10_node.2.1 6 = .ok (.getfield 33, 3) := by decide +kernel
theorem dX10_node_9 : decode M_X10_node.2.1 9 = .ok (.aload_n 0, 1) := by decide +kernel
theorem dX10_node_10 : decode M_X10_node.2.1 10 = .ok (.getfield 170, 3) := by decide +kernel
theorem dX10_node_13 : decode M_X10_node.2.1 13 = .ok (.iaload, 1) := by decide +kernel
theorem dX10_node_14 : decode M_X10_node.2.1 14 = .ok (.if_icmp .lt 5, 3) := by decide +kernel
theorem dX10_node_17 : decode M_X10_node.2.1 17 = .ok (.iconst (-1), 1) := by decide +kernel
theorem dX10_node_18 : decode M_X10_node.2.1 18 = .ok (.ireturn, 1) := by decide +kernel
theorem dX10_node_19 : decode M_X10_node.2.1 19 = .ok (.sipush 250, 3) := by decide +kernel
theorem dX10_node_22 : decode M_X10_node.2.1 22 = .ok (.aload_n 0, 1) := by decide +kernel
theorem dX10_node_23 : decode M_X10_node.2.1 23 = .ok (.getfield 170, 3) := by decide +kernel
theorem dX10_node_26 : decode M_X10_node.2.1 26 = .ok (.imul, 1) := by decide +kernel
theorem dX10_node_27 : decode M_X10_node.2.1 27 = .ok (.iload_n 1, 1) := by decide +kernel
theorem dX10_node_28 : decode M_X10_node.2.1 28 = .ok (.iadd, 1) := by decide +kernel
theorem dX10_node_29 : decode M_X10_node.2.1 29 = .ok (.istore_n 3, 1) := by decide +kernel
theorem dX10_node_30 : decode M_X10_node.2.1 30 = .ok (.iconst 0, 1) := by decide +kernel
theorem dX10_node_31 : decode M_X10_node.2.1 31 = .ok (.istore 4, 2) := by decide +kernel
theorem dX10_node_33 : decode M_X10_node.2.1 33 = .ok (.iload_n 2, 1) := by decide +kernel
theorem dX10_node_34 : decode M_X10_node.2.1 34 = .ok (.tableswitch 202 0 8 #[50, 79, 202, 86, 93, 100, 158, 189, 195], 50) := by decide +kernel
theorem dX10_node_84 : decode M_X10_node.2.1 84 = .ok (.aload_n 0, 1) := by decide +kernel
theorem dX10_node_85 : decode M_X10_node.2.1 85 = .ok (.getfield 7, 3) := by decide +kernel
theorem dX10_node_88 : decode M_X10_node.2.1 88 = .ok (.iload_n 3, 1) := by decide +kernel
theorem dX10_node_89 : decode M_X10_node.2.1 89 = .ok (.iaload, 1) := by decide +kernel
theorem dX10_node_90 : decode M_X10_node.2.1 90 = .ok (.ifCond .ge 7, 3) := by decide +kernel
theorem dX10_node_93 : decode M_X10_node.2.1 93 = .ok (.iconst (-1), 1) := by decide +kernel
theorem dX10_node_94 : decode M_X10_node.2.1 94 = .ok (.goto 18, 3) := by decide +kernel
theorem dX10_node_97 : decode M_X10_node.2.1 97 = .ok (.aload_n 0, 1) := by decide +kernel
theorem dX10_node_98 : decode M_X10_node.2.1 98 = .ok (.getfield 7, 3) := by decide +kernel
theorem dX10_node_101 : decode M_X10_node.2.1 101 = .ok (.iload_n 3, 1) := by decide +kernel
theorem dX10_node_102 : decode M_X10_node.2.1 102 = .ok (.iaload, 1) := by decide +kernel
theorem dX10_node_103 : decode M_X10_node.2.1 103 = .ok (.sipush 250, 3) := by decide +kernel
theorem dX10_node_106 : decode M_X10_node.2.1 106 = .ok (.aload_n 0, 1) := by decide +kernel
theorem dX10_node_107 : decode M_X10_node.2.1 107 = .ok (.getfield 170, 3) := by decide +kernel
theorem dX10_node_110 : decode M_X10_node.2.1 110 = .ok (.imul, 1) := by decide +kernel
theorem dX10_node_111 : decode M_X10_node.2.1 111 = .ok (.isub, 1) := by decide +kernel
theorem dX10_node_112 : decode M_X10_node.2.1 112 = .ok (.ireturn, 1) := by decide +kernel
theorem dX10_node_113 : decode M_X10_node.2.1 113 = .ok (.aload_n 0, 1) := by decide +kernel
theorem dX10_node_114 : decode M_X10_node.2.1 114 = .ok (.getfield 13, 3) := by decide +kernel
theorem dX10_node_117 : decode M_X10_node.2.1 117 = .ok (.iload_n 3, 1) := by decide +kernel
theorem dX10_node_118 : decode M_X10_node.2.1 118 = .ok (.iaload, 1) := by decide +kernel
theorem dX10_node_119 : decode M_X10_node.2.1 119 = .ok (.ireturn, 1) := by decide +kernel
theorem dX10_node_120 : decode M_X10_node.2.1 120 = .ok (.aload_n 0, 1) := by decide +kernel
theorem dX10_node_121 : decode M_X10_node.2.1 121 = .ok (.getfield 16, 3) := by decide +kernel
theorem dX10_node_124 : decode M_X10_node.2.1 124 = .ok (.iload_n 3, 1) := by decide +kernel
theorem dX10_node_125 : decode M_X10_node.2.1 125 = .ok (.iaload, 1) := by decide +kernel
theorem dX10_node_126 : decode M_X10_node.2.1 126 = .ok (.ireturn, 1) := by decide +kernel
theorem dX10_node_127 : decode M_X10_node.2.1 127 = .ok (.aload_n 0, 1) := by decide +kernel
theorem dX10_node_128 : decode M_X10_node.2.1 128 = .ok (.getfield 19, 3) := by decide +kernel
theorem dX10_node_131 : decode M_X10_node.2.1 131 = .ok (.iload_n 3, 1) := by decide +kernel
theorem dX10_node_132 : decode M_X10_node.2.1 132 = .ok (.iaload, 1) := by decide +kernel
theorem dX10_node_133 : decode M_X10_node.2.1 133 = .ok (.ireturn, 1) := by decide +kernel
theorem dX10_node_134 : decode M_X10_node.2.1 134 = .ok (.iload_n 3, 1) := by decide +kernel
theorem dX10_node_135 : decode M_X10_node.2.1 135 = .ok (.iconst 1, 1) := by decide +kernel
theorem dX10_node_136 : decode M_X10_node.2.1 136 = .ok (.iadd, 1) := by decide +kernel
theorem dX10_node_137 : decode M_X10_node.2.1 137 = .ok (.istore 5, 2) := by decide +kernel
theorem dX10_node_139 : decode M_X10_node.2.1 139 = .ok (.iload 5, 2) := by decide +kernel
theorem dX10_node_141 : decode M_X10_node.2.1 141 = .ok (.sipush 250, 3) := by decide +kernel
theorem dX10_node_144 : decode M_X10_node.2.1 144 = .ok (.aload_n 0, 1) := by decide +kernel
theorem dX10_node_145 : decode M_X10_node.2.1 145 = .ok (.getfield 170, 3) := by decide +kernel
theorem dX10_node_148 : decode M_X10_node.2.1 148 = .ok (.imul, 1) := by decide +kernel
theorem dX10_node_149 : decode M_X10_node.2.1 149 = .ok (.aload_n 0, 1) := by decide +kernel
theorem dX10_node_150 : decode M_X10_node.2.1 150 = .ok (.getfield 33, 3) := by decide +kernel
theorem dX10_node_153 : decode M_X10_node.2.1 153 = .ok (.aload_n 0, 1) := by decide +kernel
theorem dX10_node_154 : decode M_X10_node.2.1 154 = .ok (.getfield 170, 3) := by decide +kernel
theorem dX10_node_157 : decode M_X10_node.2.1 157 = .ok (.iaload, 1) := by decide +kernel
theorem dX10_node_158 : decode M_X10_node.2.1 158 = .ok (.iadd, 1) := by decide +kernel
theorem dX10_node_159 : decode M_X10_node.2.1 159 = .ok (.if_icmp .ge 30, 3) := by decide +kernel
theorem dX10_node_162 : decode M_X10_node.2.1 162 = .ok (.iload 4, 2) := by decide +kernel
theorem dX10_node_164 : decode M_X10_node.2.1 164 = .ok (.aload_n 0, 1) := by decide +kernel
theorem dX10_node_165 : decode M_X10_node.2.1 165 = .ok (.getfield 7, 3) := by decide +kernel
theorem dX10_node_168 : decode M_X10_node.2.1 168 = .ok (.iload 5, 2) := by decide +kernel
theorem dX10_node_170 : decode M_X10_node.2.1 170 = .ok (.iaload, 1) := by decide +kernel
theorem dX10_node_171 : decode M_X10_node.2.1 171 = .ok (.iload_n 3, 1) := by decide +kernel
theorem dX10_node_172 : decode M_X10_node.2.1 172 = .ok (.if_icmp .ne 7, 3) := by decide +kernel
theorem dX10_node_175 : decode M_X10_node.2.1 175 = .ok (.iconst 1, 1) := by decide +kernel
theorem dX10_node_176 : decode M_X10_node.2.1 176 = .ok (.goto 4, 3) := by decide +kernel
theorem dX10_node_179 : decode M_X10_node.2.1 179 = .ok (.iconst 0, 1) := by decide +kernel
theorem dX10_node_180 : decode M_X10_node.2.1 180 = .ok (.iadd, 1) := by decide +kernel
theorem dX10_node_181 : decode M_X10_node.2.1 181 = .ok (.istore 4, 2) := by decide +kernel
theorem dX10_node_183 : decode M_X10_node.2.1 183 = .ok (.iinc 5 1, 3) := by decide +kernel
theorem dX10_node_186 : decode M_X10_node.2.1 186 = .ok (.goto (-47), 3) := by decide +kernel
theorem dX10_node_189 : decode M_X10_node.2.1 189 = .ok (.iload 4, 2) := by decide +kernel
theorem dX10_node_191 : decode M_X10_node.2.1 191 = .ok (.ireturn, 1) := by decide +kernel
theorem dX10_node_192 : decode M_X10_node.2.1 192 = .ok (.aload_n 0, 1) := by decide +kernel
theorem dX10_node_193 : decode M_X10_node.2.1 193 = .ok (.getfield 7, 3) := by decide +kernel
theorem dX10_node_196 : decode M_X10_node.2.1 196 = .ok (.iload_n 3, 1) := by decide +kernel
theorem dX10_node_197 : decode M_X10_node.2.1 197 = .ok (.iaload, 1) := by decide +kernel
theorem dX10_node_198 : decode M_X10_node.2.1 198 = .ok (.istore 5, 2) := by decide +kernel
theorem dX10_node_200 : decode M_X10_node.2.1 200 = .ok (.iload 5, 2) := by decide +kernel
theorem dX10_node_202 : decode M_X10_node.2.1 202 = .ok (.ifCond .lt 18, 3) := by decide +kernel
theorem dX10_node_205 : decode M_X10_node.2.1 205 = .ok (.iinc 4 1, 3) := by decide +kernel
theorem dX10_node_208 : decode M_X10_node.2.1 208 = .ok (.aload_n 0, 1) := by decide +kernel
theorem dX10_node_209 : decode M_X10_node.2.1 209 = .ok (.getfield 7, 3) := by decide +kernel
theorem dX10_node_212 : decode M_X10_node.2.1 212 = .ok (.iload 5, 2) := by decide +kernel
theorem dX10_node_214 : decode M_X10_node.2.1 214 = .ok (.iaload, 1) := by decide +kernel
theorem dX10_node_215 : decode M_X10_node.2.1 215 = .ok (.istore 5, 2) := by decide +kernel
theorem dX10_node_217 : decode M_X10_node.2.1 217 = .ok (.goto (-17), 3) := by decide +kernel
theorem dX10_node_220 : decode M_X10_node.2.1 220 = .ok (.iload 4, 2) := by decide +kernel
theorem dX10_node_222 : decode M_X10_node.2.1 222 = .ok (.ireturn, 1) := by decide +kernel
theorem dX10_node_223 : decode M_X10_node.2.1 223 = .ok (.aload_n 0, 1) := by decide +kernel
theorem dX10_node_224 : decode M_X10_node.2.1 224 = .ok (.iload_n 3, 1) := by decide +kernel
theorem dX10_node_225 : decode M_X10_node.2.1 225 = .ok (.invokevirtual 160, 3) := by decide +kernel
theorem dX10_node_228 : decode M_X10_node.2.1 228 = .ok (.ireturn, 1) := by decide +kernel
theorem dX10_node_229 : decode M_X10_node.2.1 229 = .ok (.aload_n 0, 1) := by decide +kernel
theorem dX10_node_230 : decode M_X10_node.2.1 230 = .ok (.getfield 22, 3) := by decide +kernel
theorem dX10_node_233 : decode M_X10_node.2.1 233 = .ok (.iload_n 3, 1) := by decide +kernel
theorem dX10_node_234 : decode M_X10_node.2.1 234 = .ok (.iaload, 1) := by decide +kernel
theorem dX10_node_235 : decode M_X10_node.2.1 235 = .ok (.ireturn, 1) := by decide +kernel
theorem dX10_node_236 : decode M_X10_node.2.1 236 = .ok (.iconst (-1), 1) := by decide +kernel
theorem dX10_node_237 : decode M_X10_node.2.1 237 = .ok (.ireturn, 1) := by decide +kernel
def L_X10_node_139 (X : ZX) (d n : Nat) (P : Option Value → ZSto → Prop) (x3 : Int) (x4 : Int) (x5 : Int) (σ : ZSto) : Prop := R32 x3 → R32 x4 → R32 x5 → ZOk n σ → Zn X M_X10_node d n P 139 [some (.ref (zB X + 73)), none, none, some (iV x3), some (iV x4), some (iV x5)] [] σ
def L_X10_node_200 (X : ZX) (d n : Nat) (P : Option Value → ZSto → Prop) (x4 : Int) (x5 : Int) (σ : ZSto) : Prop := R32 x4 → R32 x5 → ZOk n σ → Zn X M_X10_node d n P 200 [some (.ref (zB X + 73)), none, none, none, some (iV x4), some (iV x5)] [] σ
theorem w_X10_node {X : ZX} {d n : Nat} {P : Int → ZSto → Prop} {x1 : Int} {x2 : Int} {σ : ZSto} (hn : 104 ≤ n)  (hx1 : R32 x1) (hx2 : R32 x2)
    (h : (x1 < 0 → P ((-1)) σ) ∧ (¬ (x1 < 0) → (0 ≤ gI σ 73 10 ∧ gI σ 73 10 < 2) ∧ (x1 < gI σ 81 ((gI σ 73 10).toNat) → (∀ y10 : Int, y10 = (250 * (gI σ 73 10)) + x1 → (x2 = 0 → (0 ≤ y10 ∧ y10 < 500) ∧ (0 ≤ gI σ 74 y10.toNat → R32 ((gI σ 74 y10.toNat) - (250 * (gI σ 73 10))) ∧ P ((gI σ 74 y10.toNat) - (250 * (gI σ 73 10))) σ) ∧ (¬ (0 ≤ gI σ 74 y10.toNat) → P ((-1)) σ)) ∧ (x2 = 1 → (0 ≤ y10 ∧ y10 < 500) ∧ P (gI σ 75 y10.toNat) σ) ∧ (x2 = 2 → P ((-1)) σ) ∧ (x2 = 3 → (0 ≤ y10 ∧ y10 < 500) ∧ P (gI σ 76 y10.toNat) σ) ∧ (x2 = 4 → (0 ≤ y10 ∧ y10 < 500) ∧ P (gI σ 77 y10.toNat) σ) ∧ (x2 = 5 → R32 y10 ∧ R32 (y10 + 1) ∧ L_X10_node_139 X d n (zpI P) y10 0 (y10 + 1) σ) ∧ (x2 = 6 → (0 ≤ y10 ∧ y10 < 500) ∧ (∀ y47 : Int, y47 = gI σ 74 y10.toNat → L_X10_node_200 X d n (zpI P) 0 y47 σ)) ∧ (x2 = 7 → ZkI X M_X10_turn d n [.ref (zB X + 73), iV y10] σ (fun v52 σ53 => P v52 σ53)) ∧ (x2 = 8 → (0 ≤ y10 ∧ y10 < 500) ∧ P (gI σ 78 y10.toNat) σ) ∧ ((x2 < 0 ∨ 8 < x2) → P ((-1)) σ))) ∧ (¬ (x1 < gI σ 81 ((gI σ 73 10).toNat)) → P ((-1)) σ))) :
    ZkI X M_X10_node (d + 1) n [.ref (zB X + 73), iV x1, iV x2] σ P := by
  refine zk_of (ls := [some (.ref (zB X + 73)), some (iV x1), some (iV x2), none, none, none]) pl_RX10 (Nat.le_of_ble_eq_true rfl) rfl (fun k0 => ?_)
  unfold Zn
  refine r_iload_n dX10_node_0 rfl ?_
  refine r_if_lt (t := 17) dX10_node_1 rfl hx1  (fun c1 => ?_) (fun c2 => ?_)
  · have h3 := h.1 c1
    refine r_iconst dX10_node_17 ?_
    exact r_ireturn dX10_node_18 rfl ⟨k0, _, rfl, (r32c rfl), h3⟩
  · have h4 := h.2 c2
    refine r_iload_n dX10_node_4 rfl ?_
    refine r_aload_n dX10_node_5 rfl ?_
    refine r_getP (a := 81) dX10_node_6 kf_RX10_33 (zlt hn rfl) sh_73 rfl (k0.1 _ _ _ (zlt hn rfl) p_73_7) ?_
    refine r_aload_n dX10_node_9 rfl ?_
    refine r_getI dX10_node_10 kf_RX10_170 (zlt hn rfl) sh_73 (Or.inl rfl) rfl ?_
    obtain ⟨h5, h6⟩ := h4
    refine r_ialoadE dX10_node_13 (zlt hn rfl) sh_81 h5.1 h5.2 rfl ?_
    refine r_icmp_lt (t := 19) dX10_node_14 rfl hx1 (k0.2.1 _ _) (fun c7 => ?_) (fun c8 => ?_)
    · have h9 := h6.1 c7
      refine r_sipush dX10_node_19 rfl ?_
      refine r_aload_n dX10_node_22 rfl ?_
      refine r_getI dX10_node_23 kf_RX10_170 (zlt hn rfl) sh_73 (Or.inl rfl) rfl ?_
      refine r_imul dX10_node_26 ?_
      refine r_iload_n dX10_node_27 rfl ?_
      refine r_iadd dX10_node_28 ?_
      refine r_name (fun y10 e11 => ?_)
      have h12 := h9 y10 e11
      refine r_istore_n dX10_node_29 rfl rfl ?_
      refine r_iconst dX10_node_30 ?_
      refine r_istore dX10_node_31 rfl rfl ?_
      refine r_iload_n dX10_node_33 rfl ?_
      by_cases c13 : x2 = 0
      · have h14 := h12.1 c13
        refine r_tabIn (t := 84) dX10_node_34 hx2 (by rw [c13]; decide) (by rw [c13]; decide) (by rw [c13]; rfl) rfl ?_
        refine r_aload_n dX10_node_84 rfl ?_
        refine r_getP (a := 74) dX10_node_85 kf_RX10_7 (zlt hn rfl) sh_73 rfl (k0.1 _ _ _ (zlt hn rfl) p_73_0) ?_
        refine r_iload_n dX10_node_88 rfl ?_
        obtain ⟨h15, h16⟩ := h14
        refine r_ialoadE dX10_node_89 (zlt hn rfl) sh_74 h15.1 h15.2 rfl ?_
        refine r_if_ge (t := 97) dX10_node_90 rfl (k0.2.1 _ _)  (fun c17 => ?_) (fun c18 => ?_)
        · have h19 := h16.1 c17
          refine r_aload_n dX10_node_97 rfl ?_
          refine r_getP (a := 74) dX10_node_98 kf_RX10_7 (zlt hn rfl) sh_73 rfl (k0.1 _ _ _ (zlt hn rfl) p_73_0) ?_
          refine r_iload_n dX10_node_101 rfl ?_
          refine r_ialoadE dX10_node_102 (zlt hn rfl) sh_74 h15.1 h15.2 rfl ?_
          refine r_sipush dX10_node_103 rfl ?_
          refine r_aload_n dX10_node_106 rfl ?_
          refine r_getI dX10_node_107 kf_RX10_170 (zlt hn rfl) sh_73 (Or.inl rfl) rfl ?_
          refine r_imul dX10_node_110 ?_
          refine r_isub dX10_node_111 ?_
          obtain ⟨h20, h21⟩ := h19
          exact r_ireturn dX10_node_112 rfl ⟨k0, _, rfl, h20, h21⟩
        · have h22 := h16.2 c18
          refine r_iconst dX10_node_93 ?_
          refine r_goto (t := 112) dX10_node_94 rfl ?_
          exact r_ireturn dX10_node_112 rfl ⟨k0, _, rfl, (r32c rfl), h22⟩
      by_cases c23 : x2 = 1
      · have h24 := h12.2.1 c23
        refine r_tabIn (t := 113) dX10_node_34 hx2 (by rw [c23]; decide) (by rw [c23]; decide) (by rw [c23]; rfl) rfl ?_
        refine r_aload_n dX10_node_113 rfl ?_
        refine r_getP (a := 75) dX10_node_114 kf_RX10_13 (zlt hn rfl) sh_73 rfl (k0.1 _ _ _ (zlt hn rfl) p_73_1) ?_
        refine r_iload_n dX10_node_117 rfl ?_
        obtain ⟨h25, h26⟩ := h24
        refine r_ialoadE dX10_node_118 (zlt hn rfl) sh_75 h25.1 h25.2 rfl ?_
        exact r_ireturn dX10_node_119 rfl ⟨k0, _, rfl, (k0.2.1 _ _), h26⟩
      by_cases c27 : x2 = 2
      · have h28 := h12.2.2.1 c27
        refine r_tabIn (t := 236) dX10_node_34 hx2 (by rw [c27]; decide) (by rw [c27]; decide) (by rw [c27]; rfl) rfl ?_
        refine r_iconst dX10_node_236 ?_
        exact r_ireturn dX10_node_237 rfl ⟨k0, _, rfl, (r32c rfl), h28⟩
      by_cases c29 : x2 = 3
      · have h30 := h12.2.2.2.1 c29
        refine r_tabIn (t := 120) dX10_node_34 hx2 (by rw [c29]; decide) (by rw [c29]; decide) (by rw [c29]; rfl) rfl ?_
        refine r_aload_n dX10_node_120 rfl ?_
        refine r_getP (a := 76) dX10_node_121 kf_RX10_16 (zlt hn rfl) sh_73 rfl (k0.1 _ _ _ (zlt hn rfl) p_73_2) ?_
        refine r_iload_n dX10_node_124 rfl ?_
        obtain ⟨h31, h32⟩ := h30
        refine r_ialoadE dX10_node_125 (zlt hn rfl) sh_76 h31.1 h31.2 rfl ?_
        exact r_ireturn dX10_node_126 rfl ⟨k0, _, rfl, (k0.2.1 _ _), h32⟩
      by_cases c33 : x2 = 4
      · have h34 := h12.2.2.2.2.1 c33
        refine r_tabIn (t := 127) dX10_node_34 hx2 (by rw [c33]; decide) (by rw [c33]; decide) (by rw [c33]; rfl) rfl ?_
        refine r_aload_n dX10_node_127 rfl ?_
        refine r_getP (a := 77) dX10_node_128 kf_RX10_19 (zlt hn rfl) sh_73 rfl (k0.1 _ _ _ (zlt hn rfl) p_73_3) ?_
        refine r_iload_n dX10_node_131 rfl ?_
        obtain ⟨h35, h36⟩ := h34
        refine r_ialoadE dX10_node_132 (zlt hn rfl) sh_77 h35.1 h35.2 rfl ?_
        exact r_ireturn dX10_node_133 rfl ⟨k0, _, rfl, (k0.2.1 _ _), h36⟩
      by_cases c37 : x2 = 5
      · have h38 := h12.2.2.2.2.2.1 c37
        refine r_tabIn (t := 134) dX10_node_34 hx2 (by rw [c37]; decide) (by rw [c37]; decide) (by rw [c37]; rfl) rfl ?_
        refine r_iload_n dX10_node_134 rfl ?_
        refine r_iconst dX10_node_135 ?_
        refine r_iadd dX10_node_136 ?_
        refine r_istore dX10_node_137 rfl rfl ?_
        obtain ⟨h39, h40⟩ := h38
        obtain ⟨h41, h42⟩ := h40
        exact r_mask [true, false, false, true, true, true] rfl (h42 h39 (r32c rfl) h41 k0)
      by_cases c43 : x2 = 6
      · have h44 := h12.2.2.2.2.2.2.1 c43
        refine r_tabIn (t := 192) dX10_node_34 hx2 (by rw [c43]; decide) (by rw [c43]; decide) (by rw [c43]; rfl) rfl ?_
        refine r_aload_n dX10_node_192 rfl ?_
        refine r_getP (a := 74) dX10_node_193 kf_RX10_7 (zlt hn rfl) sh_73 rfl (k0.1 _ _ _ (zlt hn rfl) p_73_0) ?_
        refine r_iload_n dX10_node_196 rfl ?_
        obtain ⟨h45, h46⟩ := h44
        refine r_ialoadE dX10_node_197 (zlt hn rfl) sh_74 h45.1 h45.2 rfl ?_
        refine r_name (fun y47 e48 => ?_)
        have h49 := h46 y47 e48
        refine r_istore dX10_node_198 rfl rfl ?_
        exact r_mask [true, false, false, false, true, true] rfl (h49 (r32c rfl) (by rw [e48]; exact (k0.2.1 _ _)) k0)
      by_cases c50 : x2 = 7
      · have h51 := h12.2.2.2.2.2.2.2.1 c50
        refine r_tabIn (t := 223) dX10_node_34 hx2 (by rw [c50]; decide) (by rw [c50]; decide) (by rw [c50]; rfl) rfl ?_
        refine r_aload_n dX10_node_223 rfl ?_
        refine r_iload_n dX10_node_224 rfl ?_
        refine n_callV (N := M_X10_turn) (As := [iV y10]) (st := []) dX10_node_225 mk_X10_turn km_RX10_160 kd_X10_turn rfl (zlt hn rfl) sh_73 (q := (RX10, TX10, 52)) rfl rfl (zFits_rm d n n n (Nat.le_refl n)) (Nat.le_of_ble_eq_true rfl) rfl k0 h51 ?_
        rintro _ σ53 k54 ⟨v52, rfl, h55, h56⟩
        change Zm _ _ _ _ _ _ 228 _ [iV v52] _
        exact r_ireturn dX10_node_228 rfl ⟨k54, _, rfl, h55, h56⟩
      by_cases c57 : x2 = 8
      · have h58 := h12.2.2.2.2.2.2.2.2.1 c57
        refine r_tabIn (t := 229) dX10_node_34 hx2 (by rw [c57]; decide) (by rw [c57]; decide) (by rw [c57]; rfl) rfl ?_
        refine r_aload_n dX10_node_229 rfl ?_
        refine r_getP (a := 78) dX10_node_230 kf_RX10_22 (zlt hn rfl) sh_73 rfl (k0.1 _ _ _ (zlt hn rfl) p_73_4) ?_
        refine r_iload_n dX10_node_233 rfl ?_
        obtain ⟨h59, h60⟩ := h58
        refine r_ialoadE dX10_node_234 (zlt hn rfl) sh_78 h59.1 h59.2 rfl ?_
        exact r_ireturn dX10_node_235 rfl ⟨k0, _, rfl, (k0.2.1 _ _), h60⟩
      · have c62 : (x2 < 0 ∨ 8 < x2) := by omega
        have h61 := h12.2.2.2.2.2.2.2.2.2 c62
        refine r_tabOut (t := 236) dX10_node_34 hx2 c62 rfl ?_
        refine r_iconst dX10_node_236 ?_
        exact r_ireturn dX10_node_237 rfl ⟨k0, _, rfl, (r32c rfl), h61⟩
    · have h63 := h6.2 c8
      refine r_iconst dX10_node_17 ?_
      exact r_ireturn dX10_node_18 rfl ⟨k0, _, rfl, (r32c rfl), h63⟩
theorem b_X10_node_139 {X : ZX} {d n : Nat} {P : Int → ZSto → Prop} {x3 : Int} {x4 : Int} {x5 : Int} {σ : ZSto} (hn : 104 ≤ n) 
    (h : (0 ≤ gI σ 73 10 ∧ gI σ 73 10 < 2) ∧ R32 ((250 * (gI σ 73 10)) + (gI σ 81 ((gI σ 73 10).toNat))) ∧ ((250 * (gI σ 73 10)) + (gI σ 81 ((gI σ 73 10).toNat)) ≤ x5 → P x4 σ) ∧ (¬ ((250 * (gI σ 73 10)) + (gI σ 81 ((gI σ 73 10).toNat)) ≤ x5) → (0 ≤ x5 ∧ x5 < 500) ∧ (¬ gI σ 74 x5.toNat = x3 → R32 (x4 + 0) ∧ R32 (x5 + 1) ∧ L_X10_node_139 X d n (zpI P) x3 (x4 + 0) (x5 + 1) σ) ∧ (gI σ 74 x5.toNat = x3 → R32 (x4 + 1) ∧ R32 (x5 + 1) ∧ L_X10_node_139 X d n (zpI P) x3 (x4 + 1) (x5 + 1) σ))) :
    L_X10_node_139 X d n (zpI P) x3 x4 x5 σ := by
  intro hx3 hx4 hx5 k0
  unfold Zn
  refine r_iload dX10_node_139 rfl ?_
  refine r_sipush dX10_node_141 rfl ?_
  refine r_aload_n dX10_node_144 rfl ?_
  refine r_getI dX10_node_145 kf_RX10_170 (zlt hn rfl) sh_73 (Or.inl rfl) rfl ?_
  refine r_imul dX10_node_148 ?_
  refine r_aload_n dX10_node_149 rfl ?_
  refine r_getP (a := 81) dX10_node_150 kf_RX10_33 (zlt hn rfl) sh_73 rfl (k0.1 _ _ _ (zlt hn rfl) p_73_7) ?_
  refine r_aload_n dX10_node_153 rfl ?_
  refine r_getI dX10_node_154 kf_RX10_170 (zlt hn rfl) sh_73 (Or.inl rfl) rfl ?_
  obtain ⟨h1, h2⟩ := h
  refine r_ialoadE dX10_node_157 (zlt hn rfl) sh_81 h1.1 h1.2 rfl ?_
  refine r_iadd dX10_node_158 ?_
  obtain ⟨h3, h4⟩ := h2
  refine r_icmp_ge (t := 189) dX10_node_159 rfl hx5 h3 (fun c5 => ?_) (fun c6 => ?_)
  · have h7 := h4.1 c5
    refine r_iload dX10_node_189 rfl ?_
    exact r_ireturn dX10_node_191 rfl ⟨k0, _, rfl, hx4, h7⟩
  · have h8 := h4.2 c6
    refine r_iload dX10_node_162 rfl ?_
    refine r_aload_n dX10_node_164 rfl ?_
    refine r_getP (a := 74) dX10_node_165 kf_RX10_7 (zlt hn rfl) sh_73 rfl (k0.1 _ _ _ (zlt hn rfl) p_73_0) ?_
    refine r_iload dX10_node_168 rfl ?_
    obtain ⟨h9, h10⟩ := h8
    refine r_ialoadE dX10_node_170 (zlt hn rfl) sh_74 h9.1 h9.2 rfl ?_
    refine r_iload_n dX10_node_171 rfl ?_
    refine r_icmp_ne (t := 179) dX10_node_172 rfl (k0.2.1 _ _) hx3 (fun c11 => ?_) (fun c12 => ?_)
    · have h13 := h10.1 c11
      refine r_iconst dX10_node_179 ?_
      refine r_iadd dX10_node_180 ?_
      refine r_istore dX10_node_181 rfl rfl ?_
      refine r_iinc dX10_node_183 rfl rfl rfl ?_
      refine r_goto (t := 139) dX10_node_186 rfl ?_
      obtain ⟨h14, h15⟩ := h13
      obtain ⟨h16, h17⟩ := h15
      exact r_mask [true, false, false, true, true, true] rfl (h17 hx3 h14 h16 k0)
    · have h18 := h10.2 c12
      refine r_iconst dX10_node_175 ?_
      refine r_goto (t := 180) dX10_node_176 rfl ?_
      refine r_iadd dX10_node_180 ?_
      refine r_istore dX10_node_181 rfl rfl ?_
      refine r_iinc dX10_node_183 rfl rfl rfl ?_
      refine r_goto (t := 139) dX10_node_186 rfl ?_
      obtain ⟨h19, h20⟩ := h18
      obtain ⟨h21, h22⟩ := h20
      exact r_mask [true, false, false, true, true, true] rfl (h22 hx3 h19 h21 k0)
theorem b_X10_node_200 {X : ZX} {d n : Nat} {P : Int → ZSto → Prop} {x4 : Int} {x5 : Int} {σ : ZSto} (hn : 104 ≤ n) 
    (h : (x5 < 0 → P x4 σ) ∧ (¬ (x5 < 0) → (0 ≤ x5 ∧ x5 < 500) ∧ (∀ y7 : Int, y7 = gI σ 74 x5.toNat → R32 (x4 + 1) ∧ L_X10_node_200 X d n (zpI P) (x4 + 1) y7 σ))) :
    L_X10_node_200 X d n (zpI P) x4 x5 σ := by
  intro hx4 hx5 k0
  unfold Zn
  refine r_iload dX10_node_200 rfl ?_
  refine r_if_lt (t := 220) dX10_node_202 rfl hx5  (fun c1 => ?_) (fun c2 => ?_)
  · have h3 := h.1 c1
    refine r_iload dX10_node_220 rfl ?_
    exact r_ireturn dX10_node_222 rfl ⟨k0, _, rfl, hx4, h3⟩
  · have h4 := h.2 c2
    refine r_iinc dX10_node_205 rfl rfl rfl ?_
    refine r_aload_n dX10_node_208 rfl ?_
    refine r_getP (a := 74) dX10_node_209 kf_RX10_7 (zlt hn rfl) sh_73 rfl (k0.1 _ _ _ (zlt hn rfl) p_73_0) ?_
    refine r_iload dX10_node_212 rfl ?_
    obtain ⟨h5, h6⟩ := h4
    refine r_ialoadE dX10_node_214 (zlt hn rfl) sh_74 h5.1 h5.2 rfl ?_
    refine r_name (fun y7 e8 => ?_)
    have h9 := h6 y7 e8
    refine r_istore dX10_node_215 rfl rfl ?_
    refine r_goto (t := 200) dX10_node_217 rfl ?_
    obtain ⟨h10, h11⟩ := h9
    exact r_mask [true, false, false, false, true, true] rfl (h11 h10 (by rw [e8]; exact (k0.2.1 _ _)) k0)
/-! StoneRoomModel.four -/
theorem dX10_four_0 : decode M_X10_four.2.1 0 = .ok (.bipush 24, 2) := by decide +kernel
theorem dX10_four_2 : decode M_X10_four.2.1 2 = .ok (.istore_n 2, 1) := by decide +kernel
theorem dX10_four_3 : decode M_X10_four.2.1 3 = .ok (.iload_n 2, 1) := by decide +kernel
theorem dX10_four_4 : decode M_X10_four.2.1 4 = .ok (.ifCond .lt 32, 3) := by decide +kernel
theorem dX10_four_7 : decode M_X10_four.2.1 7 = .ok (.aload_n 0, 1) := by decide +kernel
theorem dX10_four_8 : decode M_X10_four.2.1 8 = .ok (.getfield 59, 3) := by decide +kernel
theorem dX10_four_11 : decode M_X10_four.2.1 11 = .ok (.aload_n 0, 1) := by decide +kernel
theorem dX10_four_12 : decode M_X10_four.2.1 12 = .ok (.getfield 195, 3) := by decide +kernel
theorem dX10_four_15 : decode M_X10_four.2.1 15 = .ok (.iload_n 1, 1) := by decide +kernel
theorem dX10_four_16 : decode M_X10_four.2.1 16 = .ok (.iload_n 2, 1) := by decide +kernel
theorem dX10_four_17 : decode M_X10_four.2.1 17 = .ok (.ishr, 1) := by decide +kernel
theorem dX10_four_18 : decode M_X10_four.2.1 18 = .ok (.i2b, 1) := by decide +kernel
theorem dX10_four_19 : decode M_X10_four.2.1 19 = .ok (.bastore, 1) := by decide +kernel
theorem dX10_four_20 : decode M_X10_four.2.1 20 = .ok (.aload_n 0, 1) := by decide +kernel
theorem dX10_four_21 : decode M_X10_four.2.1 21 = .ok (.dup, 1) := by decide +kernel
theorem dX10_four_22 : decode M_X10_four.2.1 22 = .ok (.getfield 195, 3) := by decide +kernel
theorem dX10_four_25 : decode M_X10_four.2.1 25 = .ok (.iconst 1, 1) := by decide +kernel
theorem dX10_four_26 : decode M_X10_four.2.1 26 = .ok (.iadd, 1) := by decide +kernel
theorem dX10_four_27 : decode M_X10_four.2.1 27 = .ok (.putfield 195, 3) := by decide +kernel
theorem dX10_four_30 : decode M_X10_four.2.1 30 = .ok (.iinc 2 (-8), 3) := by decide +kernel
theorem dX10_four_33 : decode M_X10_four.2.1 33 = .ok (.goto (-30), 3) := by decide +kernel
theorem dX10_four_36 : decode M_X10_four.2.1 36 = .ok (.return_, 1) := by decide +kernel
def L_X10_four_3 (X : ZX) (d n : Nat) (P : Option Value → ZSto → Prop) (x1 : Int) (x2 : Int) (σ : ZSto) : Prop := R32 x1 → R32 x2 → ZOk n σ → Zn X M_X10_four d n P 3 [some (.ref (zB X + 73)), some (iV x1), some (iV x2)] [] σ
theorem w_X10_four {X : ZX} {d n : Nat} {P : ZSto → Prop} {x1 : Int} {σ : ZSto} (hn : 104 ≤ n)  (hx1 : R32 x1)
    (h : L_X10_four_3 X d n (zpV P) x1 24 σ) :
    ZkV X M_X10_four (d + 1) n [.ref (zB X + 73), iV x1] σ P := by
  refine zk_of (ls := [some (.ref (zB X + 73)), some (iV x1), none]) pl_RX10 (Nat.le_of_ble_eq_true rfl) rfl (fun k0 => ?_)
  unfold Zn
  refine r_bipush dX10_four_0 rfl ?_
  refine r_istore_n dX10_four_2 rfl rfl ?_
  exact r_mask [true, true, true] rfl (h hx1 (r32c rfl) k0)
theorem b_X10_four_3 {X : ZX} {d n : Nat} {P : ZSto → Prop} {x1 : Int} {x2 : Int} {σ : ZSto} (hn : 104 ≤ n) 
    (h : (x2 < 0 → P σ) ∧ (¬ (x2 < 0) → (0 ≤ gI σ 73 20 ∧ gI σ 73 20 < 1500) ∧ R32 ((gI σ 73 20) + 1) ∧ R32 (x2 + (-8)) ∧ L_X10_four_3 X d n (zpV P) x1 (x2 + (-8)) (sI (sI σ 88 ((gI σ 73 20).toNat) (w8 (shrI x1 x2))) 73 20 ((gI σ 73 20) + 1)))) :
    L_X10_four_3 X d n (zpV P) x1 x2 σ := by
  intro hx1 hx2 k0
  unfold Zn
  refine r_iload_n dX10_four_3 rfl ?_
  refine r_if_lt (t := 36) dX10_four_4 rfl hx2  (fun c1 => ?_) (fun c2 => ?_)
  · have h3 := h.1 c1
    exact r_return dX10_four_36 rfl ⟨k0, rfl, h3⟩
  · have h4 := h.2 c2
    refine r_aload_n dX10_four_7 rfl ?_
    refine r_getP (a := 88) dX10_four_8 kf_RX10_59 (zlt hn rfl) sh_73 rfl (k0.1 _ _ _ (zlt hn rfl) p_73_19) ?_
    refine r_aload_n dX10_four_11 rfl ?_
    refine r_getI dX10_four_12 kf_RX10_195 (zlt hn rfl) sh_73 (Or.inl rfl) rfl ?_
    refine r_iload_n dX10_four_15 rfl ?_
    refine r_iload_n dX10_four_16 rfl ?_
    refine r_ishr dX10_four_17 ?_
    refine r_i2b dX10_four_18 ?_
    obtain ⟨h5, h6⟩ := h4
    refine r_bastore dX10_four_19 (zlt hn rfl) sh_88 h5.1 h5.2 (w8_lo _) (w8_hi _) ?_
    have k7 := zok_b (i := (gI σ 73 20).toNat) (x := w8 (shrI x1 x2)) k0 sh_88 (w8_lo _) (w8_hi _)
    refine r_aload_n dX10_four_20 rfl ?_
    refine r_dup dX10_four_21 rfl ?_
    refine r_getI dX10_four_22 kf_RX10_195 (zlt hn rfl) sh_73 (Or.inl rfl) (gI_c (by decide)) ?_
    refine r_iconst dX10_four_25 ?_
    refine r_iadd dX10_four_26 ?_
    obtain ⟨h8, h9⟩ := h6
    refine r_putI dX10_four_27 kf_RX10_195 (zlt hn rfl) sh_73 rfl (Or.inl rfl) ?_
    have k10 := zok_o (i := 20) (x := (gI σ 73 20) + 1) k7 sh_73 h8
    refine r_iinc dX10_four_30 rfl rfl rfl ?_
    refine r_goto (t := 3) dX10_four_33 rfl ?_
    obtain ⟨h11, h12⟩ := h9
    exact r_mask [true, true, true] rfl (h12 hx1 h11 k10)
/-! StoneRoomModel.feed -/
theorem dX10_feed_0 : decode M_X10_feed.2.1 0 = .ok (.aload_n 0, 1) := by decide +kernel
theorem dX10_feed_1 : decode M_X10_feed.2.1 1 = .ok (.getfield 195, 3) := by decide +kernel
theorem dX10_feed_4 : decode M_X10_feed.2.1 4 = .ok (.bipush 20, 2) := by decide +kernel
theorem dX10_feed_6 : decode M_X10_feed.2.1 6 = .ok (.iadd, 1) := by decide +kernel
theorem dX10_feed_7 : decode M_X10_feed.2.1 7 = .ok (.sipush 1500, 3) := by decide +kernel
theorem dX10_feed_10 : decode M_X10_feed.2.1 10 = .ok (.if_icmp .le 5, 3) := by decide +kernel
theorem dX10_feed_13 : decode M_X10_feed.2.1 13 = .ok (.iconst (-1), 1) := by decide +kernel
theorem dX10_feed_14 : decode M_X10_feed.2.1 14 = .ok (.ireturn, 1) := by decide +kernel
theorem dX10_feed_15 : decode M_X10_feed.2.1 15 = .ok (.aload_n 0, 1) := by decide +kernel
theorem dX10_feed_16 : decode M_X10_feed.2.1 16 = .ok (.iload_n 1, 1) := by decide +kernel
theorem dX10_feed_17 : decode M_X10_feed.2.1 17 = .ok (.invokevirtual 198, 3) := by decide +kernel
theorem dX10_feed_20 : decode M_X10_feed.2.1 20 = .ok (.aload_n 0, 1) := by decide +kernel
theorem dX10_feed_21 : decode M_X10_feed.2.1 21 = .ok (.iload_n 2, 1) := by decide +kernel
theorem dX10_feed_22 : decode M_X10_feed.2.1 22 = .ok (.invokevirtual 198, 3) := by decide +kernel
theorem dX10_feed_25 : decode M_X10_feed.2.1 25 = .ok (.aload_n 0, 1) := by decide +kernel
theorem dX10_feed_26 : decode M_X10_feed.2.1 26 = .ok (.iload_n 3, 1) := by decide +kernel
theorem dX10_feed_27 : decode M_X10_feed.2.1 27 = .ok (.invokevirtual 198, 3) := by decide +kernel
theorem dX10_feed_30 : decode M_X10_feed.2.1 30 = .ok (.aload_n 0, 1) := by decide +kernel
theorem dX10_feed_31 : decode M_X10_feed.2.1 31 = .ok (.iload 4, 2) := by decide +kernel
theorem dX10_feed_33 : decode M_X10_feed.2.1 33 = .ok (.invokevirtual 198, 3) := by decide +kernel
theorem dX10_feed_36 : decode M_X10_feed.2.1 36 = .ok (.aload_n 0, 1) := by decide +kernel
theorem dX10_feed_37 : decode M_X10_feed.2.1 37 = .ok (.iload 5, 2) := by decide +kernel
theorem dX10_feed_39 : decode M_X10_feed.2.1 39 = .ok (.invokevirtual 198, 3) := by decide +kernel
theorem dX10_feed_42 : decode M_X10_feed.2.1 42 = .ok (.aload_n 0, 1) := by decide +kernel
theorem dX10_feed_43 : decode M_X10_feed.2.1 43 = .ok (.getfield 195, 3) := by decide +kernel
theorem dX10_feed_46 : decode M_X10_feed.2.1 46 = .ok (.ireturn, 1) := by decide +kernel
theorem w_X10_feed {X : ZX} {d n : Nat} {P : Int → ZSto → Prop} {x1 : Int} {x2 : Int} {x3 : Int} {x4 : Int} {x5 : Int} {σ : ZSto} (hn : 104 ≤ n)  (hx1 : R32 x1) (hx2 : R32 x2) (hx3 : R32 x3) (hx4 : R32 x4) (hx5 : R32 x5)
    (h : R32 ((gI σ 73 20) + 20) ∧ ((gI σ 73 20) + 20 ≤ 1500 → ZkV X M_X10_four d n [.ref (zB X + 73), iV x1] σ (fun σ7 => ZkV X M_X10_four d n [.ref (zB X + 73), iV x2] σ7 (fun σ12 => ZkV X M_X10_four d n [.ref (zB X + 73), iV x3] σ12 (fun σ17 => ZkV X M_X10_four d n [.ref (zB X + 73), iV x4] σ17 (fun σ22 => ZkV X M_X10_four d n [.ref (zB X + 73), iV x5] σ22 (fun σ27 => P (gI σ27 73 20) σ27)))))) ∧ (¬ ((gI σ 73 20) + 20 ≤ 1500) → P ((-1)) σ)) :
    ZkI X M_X10_feed (d + 1) n [.ref (zB X + 73), iV x1, iV x2, iV x3, iV x4, iV x5] σ P := by
  refine zk_of (ls := [some (.ref (zB X + 73)), some (iV x1), some (iV x2), some (iV x3), some (iV x4), some (iV x5)]) pl_RX10 (Nat.le_of_ble_eq_true rfl) rfl (fun k0 => ?_)
  unfold Zn
  refine r_aload_n dX10_feed_0 rfl ?_
  refine r_getI dX10_feed_1 kf_RX10_195 (zlt hn rfl) sh_73 (Or.inl rfl) rfl ?_
  refine r_bipush dX10_feed_4 rfl ?_
  refine r_iadd dX10_feed_6 ?_
  refine r_sipush dX10_feed_7 rfl ?_
  obtain ⟨h1, h2⟩ := h
  refine r_icmp_le (t := 15) dX10_feed_10 rfl h1 (r32c rfl) (fun c3 => ?_) (fun c4 => ?_)
  · have h5 := h2.1 c3
    refine r_aload_n dX10_feed_15 rfl ?_
    refine r_iload_n dX10_feed_16 rfl ?_
    refine n_callV (N := M_X10_four) (As := [iV x1]) (st := []) dX10_feed_17 mk_X10_four km_RX10_198 kd_X10_four rfl (zlt hn rfl) sh_73 (q := (RX10, TX10, 52)) rfl rfl (zFits_rm d n n n (Nat.le_refl n)) (Nat.le_of_ble_eq_true rfl) rfl k0 h5 ?_
    rintro _ σ7 k8 ⟨rfl, h10⟩
    change Zm _ _ _ _ _ _ 20 _ [] _
    refine r_aload_n dX10_feed_20 rfl ?_
    refine r_iload_n dX10_feed_21 rfl ?_
    refine n_callV (N := M_X10_four) (As := [iV x2]) (st := []) dX10_feed_22 mk_X10_four km_RX10_198 kd_X10_four rfl (zlt hn rfl) sh_73 (q := (RX10, TX10, 52)) rfl rfl (zFits_rm d n n n (Nat.le_refl n)) (Nat.le_of_ble_eq_true rfl) rfl k8 h10 ?_
    rintro _ σ12 k13 ⟨rfl, h15⟩
    change Zm _ _ _ _ _ _ 25 _ [] _
    refine r_aload_n dX10_feed_25 rfl ?_
    refine r_iload_n dX10_feed_26 rfl ?_
    refine n_callV (N := M_X10_four) (As := [iV x3]) (st := []) dX10_feed_27 mk_X10_four km_RX10_198 kd_X10_four rfl (zlt hn rfl) sh_73 (q := (RX10, TX10, 52)) rfl rfl (zFits_rm d n n n (Nat.le_refl n)) (Nat.le_of_ble_eq_true rfl) rfl k13 h15 ?_
    rintro _ σ17 k18 ⟨rfl, h20⟩
    change Zm _ _ _ _ _ _ 30 _ [] _
    refine r_aload_n dX10_feed_30 rfl ?_
    refine r_iload dX10_feed_31 rfl ?_
    refine n_callV (N := M_X10_four) (As := [iV x4]) (st := []) dX10_feed_33 mk_X10_four km_RX10_198 kd_X10_four rfl (zlt hn rfl) sh_73 (q := (RX10, TX10, 52)) rfl rfl (zFits_rm d n n n (Nat.le_refl n)) (Nat.le_of_ble_eq_true rfl) rfl k18 h20 ?_
    rintro _ σ22 k23 ⟨rfl, h25⟩
    change Zm _ _ _ _ _ _ 36 _ [] _
    refine r_aload_n dX10_feed_36 rfl ?_
    refine r_iload dX10_feed_37 rfl ?_
    refine n_callV (N := M_X10_four) (As := [iV x5]) (st := []) dX10_feed_39 mk_X10_four km_RX10_198 kd_X10_four rfl (zlt hn rfl) sh_73 (q := (RX10, TX10, 52)) rfl rfl (zFits_rm d n n n (Nat.le_refl n)) (Nat.le_of_ble_eq_true rfl) rfl k23 h25 ?_
    rintro _ σ27 k28 ⟨rfl, h30⟩
    change Zm _ _ _ _ _ _ 42 _ [] _
    refine r_aload_n dX10_feed_42 rfl ?_
    refine r_getI dX10_feed_43 kf_RX10_195 (zlt hn rfl) sh_73 (Or.inl rfl) rfl ?_
    exact r_ireturn dX10_feed_46 rfl ⟨k28, _, rfl, (k28.2.1 _ _), h30⟩
  · have h31 := h2.2 c4
    refine r_iconst dX10_feed_13 ?_
    exact r_ireturn dX10_feed_14 rfl ⟨k0, _, rfl, (r32c rfl), h31⟩
