theorem dX8_writeHead_0 : decode M_X8_writeHead.2.1 0 = .ok (.aload_n 0, 1) := by decide +kernel
theorem dX8_writeHead_1 : decode M_X8_writeHead.2.1 1 = .ok (.getfield 9, 3) := by decide +kernel
theorem dX8_writeHead_4 : decode M_X8_writeHead.2.1 4 = .ok (.ldc 82, 2) := by decide +kernel
theorem dX8_writeHead_6 : decode M_X8_writeHead.2.1 6 = .ok (.invokevirtual 84, 3) := by decide +kernel
theorem dX8_writeHead_9 : decode M_X8_writeHead.2.1 9 = .ok (.aload_n 0, 1) := by decide +kernel
theorem dX8_writeHead_10 : decode M_X8_writeHead.2.1 10 = .ok (.aload_n 1, 1) := by decide +kernel
theorem dX8_writeHead_11 : decode M_X8_writeHead.2.1 11 = .ok (.getfield 88, 3) := by decide +kernel
theorem dX8_writeHead_14 : decode M_X8_writeHead.2.1 14 = .ok (.invokevirtual 91, 3) := by decide +kernel
theorem dX8_writeHead_17 : decode M_X8_writeHead.2.1 17 = .ok (.aload_n 1, 1) := by decide +kernel
theorem dX8_writeHead_18 : decode M_X8_writeHead.2.1 18 = .ok (.getfield 94, 3) := by decide +kernel
theorem dX8_writeHead_21 : decode M_X8_writeHead.2.1 21 = .ok (.ifCond .eq 20, 3) := by decide +kernel
theorem dX8_writeHead_24 : decode M_X8_writeHead.2.1 24 = .ok (.aload_n 0, 1) := by decide +kernel
theorem dX8_writeHead_25 : decode M_X8_writeHead.2.1 25 = .ok (.getfield 9, 3) := by decide +kernel
theorem dX8_writeHead_28 : decode M_X8_writeHead.2.1 28 = .ok (.ldc 97, 2) := by decide +kernel
theorem dX8_writeHead_30 : decode M_X8_writeHead.2.1 30 = .ok (.invokevirtual 84, 3) := by decide +kernel
theorem dX8_writeHead_33 : decode M_X8_writeHead.2.1 33 = .ok (.aload_n 0, 1) := by decide +kernel
theorem dX8_writeHead_34 : decode M_X8_writeHead.2.1 34 = .ok (.aload_n 1, 1) := by decide +kernel
theorem dX8_writeHead_35 : decode M_X8_writeHead.2.1 35 = .ok (.getfield 94, 3) := by decide +kernel
theorem dX8_writeHead_38 : decode M_X8_writeHead.2.1 38 = .ok (.invokevirtual 91, 3) := by decide +kernel
theorem dX8_writeHead_41 : decode M_X8_writeHead.2.1 41 = .ok (.return_, 1) := by decide +kernel
theorem w_X8_writeHead {X : ZX} {d n : Nat} {P : ZSto → Prop} {o1 : Nat} {σ : ZSto} (hn : 73 ≤ n) {q : Nat → Nat} (hq : ZTx X q) (hc1 : zIsT o1) 
    (h : ZkV X M_X1_addText d n [.ref (zB X + 31), .ref (q 0)] σ (fun σ2 => ZkV X M_X8_writeNumber d n [.ref (zB X + 52), iV (gI σ2 o1 13)] σ2 (fun σ7 => (gI σ7 o1 14 = 0 → P σ7) ∧ (¬ (gI σ7 o1 14 = 0) → ZkV X M_X1_addText d n [.ref (zB X + 31), .ref (q 1)] σ7 (fun σ16 => ZkV X M_X8_writeNumber d n [.ref (zB X + 52), iV (gI σ16 o1 14)] σ16 (fun σ21 => P σ21)))))) :
    ZkV X M_X8_writeHead (d + 1) n [.ref (zB X + 52), .ref (zB X + o1)] σ P := by
  refine zk_of (ls := [some (.ref (zB X + 52)), some (.ref (zB X + o1))]) pl_RX8 (Nat.le_of_ble_eq_true rfl) rfl (fun k0 => ?_)
  unfold Zn
  refine r_aload_n dX8_writeHead_0 rfl ?_
  refine r_getP (a := 31) dX8_writeHead_1 kf_RX8_9 (zlt hn rfl) sh_52 rfl (k0.1 _ _ _ (zlt hn rfl) p_52_0) ?_
  refine r_ldcS (a := q 0) hq.2.1.1 dX8_writeHead_4 ?_
  refine n_callV (N := M_X1_addText) (As := [.ref (q 0)]) (st := []) dX8_writeHead_6 mk_X1_addText km_RX8_84 kd_X1_addText rfl (zlt hn rfl) sh_31 (q := (RX1, TX1, 2)) rfl rfl (zFits_rm d n n n (Nat.le_refl n)) (Nat.le_of_ble_eq_true rfl) rfl k0 h ?_
  rintro _ σ2 k3 ⟨rfl, h5⟩
  change Zm _ _ _ _ _ _ 9 _ [] _
  refine r_aload_n dX8_writeHead_9 rfl ?_
  refine r_aload_n dX8_writeHead_10 rfl ?_
  refine r_getI dX8_writeHead_11 kf_RX8_88 (zT_lt hc1 hn) (zT_s hc1) (Or.inl rfl) rfl ?_
  refine n_callV (N := M_X8_writeNumber) (As := [iV (gI σ2 o1 13)]) (st := []) dX8_writeHead_14 mk_X8_writeNumber km_RX8_91 kd_X8_writeNumber rfl (zlt hn rfl) sh_52 (q := (RX8, TX8, 1)) rfl rfl (zFits_rm d n n n (Nat.le_refl n)) (Nat.le_of_ble_eq_true rfl) rfl k3 h5 ?_
  rintro _ σ7 k8 ⟨rfl, h10⟩
  change Zm _ _ _ _ _ _ 17 _ [] _
  refine r_aload_n dX8_writeHead_17 rfl ?_
  refine r_getI dX8_writeHead_18 kf_RX8_94 (zT_lt hc1 hn) (zT_s hc1) (Or.inl rfl) rfl ?_
  refine r_if_eq (t := 41) dX8_writeHead_21 rfl (k8.2.1 _ _)  (fun c11 => ?_) (fun c12 => ?_)
  · have h13 := h10.1 c11
    exact r_return dX8_writeHead_41 rfl ⟨k8, rfl, h13⟩
  · have h14 := h10.2 c12
    refine r_aload_n dX8_writeHead_24 rfl ?_
    refine r_getP (a := 31) dX8_writeHead_25 kf_RX8_9 (zlt hn rfl) sh_52 rfl (k8.1 _ _ _ (zlt hn rfl) p_52_0) ?_
    refine r_ldcS (a := q 1) hq.2.2.1.1 dX8_writeHead_28 ?_
    refine n_callV (N := M_X1_addText) (As := [.ref (q 1)]) (st := []) dX8_writeHead_30 mk_X1_addText km_RX8_84 kd_X1_addText rfl (zlt hn rfl) sh_31 (q := (RX1, TX1, 2)) rfl rfl (zFits_rm d n n n (Nat.le_refl n)) (Nat.le_of_ble_eq_true rfl) rfl k8 h14 ?_
    rintro _ σ16 k17 ⟨rfl, h19⟩
    change Zm _ _ _ _ _ _ 33 _ [] _
    refine r_aload_n dX8_writeHead_33 rfl ?_
    refine r_aload_n dX8_writeHead_34 rfl ?_
    refine r_getI dX8_writeHead_35 kf_RX8_94 (zT_lt hc1 hn) (zT_s hc1) (Or.inl rfl) rfl ?_
    refine n_callV (N := M_X8_writeNumber) (As := [iV (gI σ16 o1 14)]) (st := []) dX8_writeHead_38 mk_X8_writeNumber km_RX8_91 kd_X8_writeNumber rfl (zlt hn rfl) sh_52 (q := (RX8, TX8, 1)) rfl rfl (zFits_rm d n n n (Nat.le_refl n)) (Nat.le_of_ble_eq_true rfl) rfl k17 h19 ?_
    rintro _ σ21 k22 ⟨rfl, h24⟩
    change Zm _ _ _ _ _ _ 41 _ [] _
    exact r_return dX8_writeHead_41 rfl ⟨k22, rfl, h24⟩
theorem dX8_writeNode_0 : decode M_X8_writeNode.2.1 0 = .ok (.aload_n 0, 1) := by decide +kernel
theorem dX8_writeNode_1 : decode M_X8_writeNode.2.1 1 = .ok (.getfield 9, 3) := by decide +kernel
theorem dX8_writeNode_4 : decode M_X8_writeNode.2.1 4 = .ok (.bipush 59, 2) := by decide +kernel
theorem dX8_writeNode_6 : decode M_X8_writeNode.2.1 6 = .ok (.invokevirtual 21, 3) := by decide +kernel
theorem dX8_writeNode_9 : decode M_X8_writeNode.2.1 9 = .ok (.iload_n 2, 1) := by decide +kernel
theorem dX8_writeNode_10 : decode M_X8_writeNode.2.1 10 = .ok (.ifCond .ne 8, 3) := by decide +kernel
theorem dX8_writeNode_13 : decode M_X8_writeNode.2.1 13 = .ok (.aload_n 0, 1) := by decide +kernel
theorem dX8_writeNode_14 : decode M_X8_writeNode.2.1 14 = .ok (.aload_n 1, 1) := by decide +kernel
theorem dX8_writeNode_15 : decode M_X8_writeNode.2.1 15 = .ok (.invokevirtual 56, 3) := by decide +kernel
theorem dX8_writeNode_18 : decode M_X8_writeNode.2.1 18 = .ok (.aload_n 1, 1) := by decide +kernel
theorem dX8_writeNode_19 : decode M_X8_writeNode.2.1 19 = .ok (.getfield 60, 3) := by decide +kernel
theorem dX8_writeNode_22 : decode M_X8_writeNode.2.1 22 = .ok (.iload_n 2, 1) := by decide +kernel
theorem dX8_writeNode_23 : decode M_X8_writeNode.2.1 23 = .ok (.iaload, 1) := by decide +kernel
theorem dX8_writeNode_24 : decode M_X8_writeNode.2.1 24 = .ok (.ifCond .ne 31, 3) := by decide +kernel
theorem dX8_writeNode_27 : decode M_X8_writeNode.2.1 27 = .ok (.aload_n 0, 1) := by decide +kernel
theorem dX8_writeNode_28 : decode M_X8_writeNode.2.1 28 = .ok (.aload_n 1, 1) := by decide +kernel
theorem dX8_writeNode_29 : decode M_X8_writeNode.2.1 29 = .ok (.iload_n 2, 1) := by decide +kernel
theorem dX8_writeNode_30 : decode M_X8_writeNode.2.1 30 = .ok (.iconst 1, 1) := by decide +kernel
theorem dX8_writeNode_31 : decode M_X8_writeNode.2.1 31 = .ok (.ldc 63, 2) := by decide +kernel
theorem dX8_writeNode_33 : decode M_X8_writeNode.2.1 33 = .ok (.invokevirtual 65, 3) := by decide +kernel
theorem dX8_writeNode_36 : decode M_X8_writeNode.2.1 36 = .ok (.aload_n 0, 1) := by decide +kernel
theorem dX8_writeNode_37 : decode M_X8_writeNode.2.1 37 = .ok (.aload_n 1, 1) := by decide +kernel
theorem dX8_writeNode_38 : decode M_X8_writeNode.2.1 38 = .ok (.iload_n 2, 1) := by decide +kernel
theorem dX8_writeNode_39 : decode M_X8_writeNode.2.1 39 = .ok (.iconst 2, 1) := by decide +kernel
theorem dX8_writeNode_40 : decode M_X8_writeNode.2.1 40 = .ok (.ldc 69, 2) := by decide +kernel
theorem dX8_writeNode_42 : decode M_X8_writeNode.2.1 42 = .ok (.invokevirtual 65, 3) := by decide +kernel
theorem dX8_writeNode_45 : decode M_X8_writeNode.2.1 45 = .ok (.aload_n 0, 1) := by decide +kernel
theorem dX8_writeNode_46 : decode M_X8_writeNode.2.1 46 = .ok (.aload_n 1, 1) := by decide +kernel
theorem dX8_writeNode_47 : decode M_X8_writeNode.2.1 47 = .ok (.iload_n 2, 1) := by decide +kernel
theorem dX8_writeNode_48 : decode M_X8_writeNode.2.1 48 = .ok (.iconst 3, 1) := by decide +kernel
theorem dX8_writeNode_49 : decode M_X8_writeNode.2.1 49 = .ok (.ldc 71, 2) := by decide +kernel
theorem dX8_writeNode_51 : decode M_X8_writeNode.2.1 51 = .ok (.invokevirtual 65, 3) := by decide +kernel
theorem dX8_writeNode_54 : decode M_X8_writeNode.2.1 54 = .ok (.return_, 1) := by decide +kernel
theorem dX8_writeNode_55 : decode M_X8_writeNode.2.1 55 = .ok (.aload_n 0, 1) := by decide +kernel
theorem dX8_writeNode_56 : decode M_X8_writeNode.2.1 56 = .ok (.getfield 9, 3) := by decide +kernel
theorem dX8_writeNode_59 : decode M_X8_writeNode.2.1 59 = .ok (.aload_n 1, 1) := by decide +kernel
theorem dX8_writeNode_60 : decode M_X8_writeNode.2.1 60 = .ok (.getfield 73, 3) := by decide +kernel
theorem dX8_writeNode_63 : decode M_X8_writeNode.2.1 63 = .ok (.iload_n 2, 1) := by decide +kernel
theorem dX8_writeNode_64 : decode M_X8_writeNode.2.1 64 = .ok (.iaload, 1) := by decide +kernel
theorem dX8_writeNode_65 : decode M_X8_writeNode.2.1 65 = .ok (.iconst 1, 1) := by decide +kernel
theorem dX8_writeNode_66 : decode M_X8_writeNode.2.1 66 = .ok (.if_icmp .ne 8, 3) := by decide +kernel
theorem dX8_writeNode_69 : decode M_X8_writeNode.2.1 69 = .ok (.bipush 66, 2) := by decide +kernel
theorem dX8_writeNode_71 : decode M_X8_writeNode.2.1 71 = .ok (.goto 5, 3) := by decide +kernel
theorem dX8_writeNode_74 : decode M_X8_writeNode.2.1 74 = .ok (.bipush 87, 2) := by decide +kernel
theorem dX8_writeNode_76 : decode M_X8_writeNode.2.1 76 = .ok (.invokevirtual 21, 3) := by decide +kernel
theorem dX8_writeNode_79 : decode M_X8_writeNode.2.1 79 = .ok (.aload_n 0, 1) := by decide +kernel
theorem dX8_writeNode_80 : decode M_X8_writeNode.2.1 80 = .ok (.aload_n 1, 1) := by decide +kernel
theorem dX8_writeNode_81 : decode M_X8_writeNode.2.1 81 = .ok (.aload_n 1, 1) := by decide +kernel
theorem dX8_writeNode_82 : decode M_X8_writeNode.2.1 82 = .ok (.getfield 76, 3) := by decide +kernel
theorem dX8_writeNode_85 : decode M_X8_writeNode.2.1 85 = .ok (.iload_n 2, 1) := by decide +kernel
theorem dX8_writeNode_86 : decode M_X8_writeNode.2.1 86 = .ok (.iaload, 1) := by decide +kernel
theorem dX8_writeNode_87 : decode M_X8_writeNode.2.1 87 = .ok (.invokevirtual 79, 3) := by decide +kernel
theorem dX8_writeNode_90 : decode M_X8_writeNode.2.1 90 = .ok (.return_, 1) := by decide +kernel
def L_X8_writeNode_18 (X : ZX) (d n : Nat) (P : Option Value → ZSto → Prop) (o1 : Nat) (x2 : Int) (σ : ZSto) : Prop := R32 x2 → ZOk n σ → Zn X M_X8_writeNode d n P 18 [some (.ref (zB X + 52)), some (.ref (zB X + o1)), some (iV x2)] [] σ
theorem w_X8_writeNode {X : ZX} {d n : Nat} {P : ZSto → Prop} {o1 : Nat} {x2 : Int} {σ : ZSto} (hn : 73 ≤ n) {q : Nat → Nat} (hq : ZTx X q) (hc1 : zIsT o1) (hx2 : R32 x2)
    (h : ZkV X M_X1_addByte d n [.ref (zB X + 31), iV 59] σ (fun σ2 => (¬ x2 = 0 → L_X8_writeNode_18 X d n (zpV P) o1 x2 σ2) ∧ (x2 = 0 → ZkV X M_X8_writeHead d n [.ref (zB X + 52), .ref (zB X + o1)] σ2 (fun σ11 => L_X8_writeNode_18 X d n (zpV P) o1 x2 σ11)))) :
    ZkV X M_X8_writeNode (d + 1) n [.ref (zB X + 52), .ref (zB X + o1), iV x2] σ P := by
  refine zk_of (ls := [some (.ref (zB X + 52)), some (.ref (zB X + o1)), some (iV x2)]) pl_RX8 (Nat.le_of_ble_eq_true rfl) rfl (fun k0 => ?_)
  unfold Zn
  refine r_aload_n dX8_writeNode_0 rfl ?_
  refine r_getP (a := 31) dX8_writeNode_1 kf_RX8_9 (zlt hn rfl) sh_52 rfl (k0.1 _ _ _ (zlt hn rfl) p_52_0) ?_
  refine r_bipush dX8_writeNode_4 rfl ?_
  refine n_callV (N := M_X1_addByte) (As := [iV 59]) (st := []) dX8_writeNode_6 mk_X1_addByte km_RX8_21 kd_X1_addByte rfl (zlt hn rfl) sh_31 (q := (RX1, TX1, 2)) rfl rfl (zFits_rm d n n n (Nat.le_refl n)) (Nat.le_of_ble_eq_true rfl) rfl k0 h ?_
  rintro _ σ2 k3 ⟨rfl, h5⟩
  change Zm _ _ _ _ _ _ 9 _ [] _
  refine r_iload_n dX8_writeNode_9 rfl ?_
  refine r_if_ne (t := 18) dX8_writeNode_10 rfl hx2  (fun c6 => ?_) (fun c7 => ?_)
  · have h8 := h5.1 c6
    exact r_mask [true, true, true] rfl (h8 hx2 k3)
  · have h9 := h5.2 c7
    refine r_aload_n dX8_writeNode_13 rfl ?_
    refine r_aload_n dX8_writeNode_14 rfl ?_
    refine n_callV (N := M_X8_writeHead) (As := [.ref (zB X + o1)]) (st := []) dX8_writeNode_15 mk_X8_writeHead km_RX8_56 kd_X8_writeHead rfl (zlt hn rfl) sh_52 (q := (RX8, TX8, 1)) rfl rfl (zFits_rm d n n n (Nat.le_refl n)) (Nat.le_of_ble_eq_true rfl) rfl k3 h9 ?_
    rintro _ σ11 k12 ⟨rfl, h14⟩
    change Zm _ _ _ _ _ _ 18 _ [] _
    exact r_mask [true, true, true] rfl (h14 hx2 k12)
theorem b_X8_writeNode_18 {X : ZX} {d n : Nat} {P : ZSto → Prop} {o1 : Nat} {x2 : Int} {σ : ZSto} (hn : 73 ≤ n) {q : Nat → Nat} (hq : ZTx X q) (hc1 : zIsT o1)
    (h : (0 ≤ x2 ∧ x2 < 250) ∧ (¬ gI σ (o1 + 7) x2.toNat = 0 → (¬ gI σ (o1 + 8) x2.toNat = 1 → ZkV X M_X1_addByte d n [.ref (zB X + 31), iV 87] σ (fun σ10 => ZkV X M_X8_writePoint d n [.ref (zB X + 52), .ref (zB X + o1), iV (gI σ10 (o1 + 9) x2.toNat)] σ10 (fun σ15 => P σ15))) ∧ (gI σ (o1 + 8) x2.toNat = 1 → ZkV X M_X1_addByte d n [.ref (zB X + 31), iV 66] σ (fun σ21 => ZkV X M_X8_writePoint d n [.ref (zB X + 52), .ref (zB X + o1), iV (gI σ21 (o1 + 9) x2.toNat)] σ21 (fun σ26 => P σ26)))) ∧ (gI σ (o1 + 7) x2.toNat = 0 → ZkV X M_X8_writeSetting d n [.ref (zB X + 52), .ref (zB X + o1), iV x2, iV 1, .ref (q 2)] σ (fun σ32 => ZkV X M_X8_writeSetting d n [.ref (zB X + 52), .ref (zB X + o1), iV x2, iV 2, .ref (q 3)] σ32 (fun σ37 => ZkV X M_X8_writeSetting d n [.ref (zB X + 52), .ref (zB X + o1), iV x2, iV 3, .ref (q 4)] σ37 (fun σ42 => P σ42))))) :
    L_X8_writeNode_18 X d n (zpV P) o1 x2 σ := by
  intro hx2 k0
  unfold Zn
  refine r_aload_n dX8_writeNode_18 rfl ?_
  refine r_getP (a := (o1 + 7)) dX8_writeNode_19 kf_RX8_60 (zT_lt hc1 hn) (zT_s hc1) rfl (k0.1 _ _ _ (zT_lt hc1 hn) (zT_p6 hc1)) ?_
  refine r_iload_n dX8_writeNode_22 rfl ?_
  obtain ⟨h1, h2⟩ := h
  refine r_ialoadE dX8_writeNode_23 (zT_l6 hc1 hn) (zT_s6 hc1) h1.1 h1.2 rfl ?_
  refine r_if_ne (t := 55) dX8_writeNode_24 rfl (k0.2.1 _ _)  (fun c3 => ?_) (fun c4 => ?_)
  · have h5 := h2.1 c3
    refine r_aload_n dX8_writeNode_55 rfl ?_
    refine r_getP (a := 31) dX8_writeNode_56 kf_RX8_9 (zlt hn rfl) sh_52 rfl (k0.1 _ _ _ (zlt hn rfl) p_52_0) ?_
    refine r_aload_n dX8_writeNode_59 rfl ?_
    refine r_getP (a := (o1 + 8)) dX8_writeNode_60 kf_RX8_73 (zT_lt hc1 hn) (zT_s hc1) rfl (k0.1 _ _ _ (zT_lt hc1 hn) (zT_p7 hc1)) ?_
    refine r_iload_n dX8_writeNode_63 rfl ?_
    refine r_ialoadE dX8_writeNode_64 (zT_l7 hc1 hn) (zT_s7 hc1) h1.1 h1.2 rfl ?_
    refine r_iconst dX8_writeNode_65 ?_
    refine r_icmp_ne (t := 74) dX8_writeNode_66 rfl (k0.2.1 _ _) (r32c rfl) (fun c6 => ?_) (fun c7 => ?_)
    · have h8 := h5.1 c6
      refine r_bipush dX8_writeNode_74 rfl ?_
      refine n_callV (N := M_X1_addByte) (As := [iV 87]) (st := []) dX8_writeNode_76 mk_X1_addByte km_RX8_21 kd_X1_addByte rfl (zlt hn rfl) sh_31 (q := (RX1, TX1, 2)) rfl rfl (zFits_rm d n n n (Nat.le_refl n)) (Nat.le_of_ble_eq_true rfl) rfl k0 h8 ?_
      rintro _ σ10 k11 ⟨rfl, h13⟩
      change Zm _ _ _ _ _ _ 79 _ [] _
      refine r_aload_n dX8_writeNode_79 rfl ?_
      refine r_aload_n dX8_writeNode_80 rfl ?_
      refine r_aload_n dX8_writeNode_81 rfl ?_
      refine r_getP (a := (o1 + 9)) dX8_writeNode_82 kf_RX8_76 (zT_lt hc1 hn) (zT_s hc1) rfl (k11.1 _ _ _ (zT_lt hc1 hn) (zT_p8 hc1)) ?_
      refine r_iload_n dX8_writeNode_85 rfl ?_
      refine r_ialoadE dX8_writeNode_86 (zT_l8 hc1 hn) (zT_s8 hc1) h1.1 h1.2 rfl ?_
      refine n_callV (N := M_X8_writePoint) (As := [.ref (zB X + o1), iV (gI σ10 (o1 + 9) x2.toNat)]) (st := []) dX8_writeNode_87 mk_X8_writePoint km_RX8_79 kd_X8_writePoint rfl (zlt hn rfl) sh_52 (q := (RX8, TX8, 1)) rfl rfl (zFits_rm d n n n (Nat.le_refl n)) (Nat.le_of_ble_eq_true rfl) rfl k11 h13 ?_
      rintro _ σ15 k16 ⟨rfl, h18⟩
      change Zm _ _ _ _ _ _ 90 _ [] _
      exact r_return dX8_writeNode_90 rfl ⟨k16, rfl, h18⟩
    · have h19 := h5.2 c7
      refine r_bipush dX8_writeNode_69 rfl ?_
      refine r_goto (t := 76) dX8_writeNode_71 rfl ?_
      refine n_callV (N := M_X1_addByte) (As := [iV 66]) (st := []) dX8_writeNode_76 mk_X1_addByte km_RX8_21 kd_X1_addByte rfl (zlt hn rfl) sh_31 (q := (RX1, TX1, 2)) rfl rfl (zFits_rm d n n n (Nat.le_refl n)) (Nat.le_of_ble_eq_true rfl) rfl k0 h19 ?_
      rintro _ σ21 k22 ⟨rfl, h24⟩
      change Zm _ _ _ _ _ _ 79 _ [] _
      refine r_aload_n dX8_writeNode_79 rfl ?_
      refine r_aload_n dX8_writeNode_80 rfl ?_
      refine r_aload_n dX8_writeNode_81 rfl ?_
      refine r_getP (a := (o1 + 9)) dX8_writeNode_82 kf_RX8_76 (zT_lt hc1 hn) (zT_s hc1) rfl (k22.1 _ _ _ (zT_lt hc1 hn) (zT_p8 hc1)) ?_
      refine r_iload_n dX8_writeNode_85 rfl ?_
      refine r_ialoadE dX8_writeNode_86 (zT_l8 hc1 hn) (zT_s8 hc1) h1.1 h1.2 rfl ?_
      refine n_callV (N := M_X8_writePoint) (As := [.ref (zB X + o1), iV (gI σ21 (o1 + 9) x2.toNat)]) (st := []) dX8_writeNode_87 mk_X8_writePoint km_RX8_79 kd_X8_writePoint rfl (zlt hn rfl) sh_52 (q := (RX8, TX8, 1)) rfl rfl (zFits_rm d n n n (Nat.le_refl n)) (Nat.le_of_ble_eq_true rfl) rfl k22 h24 ?_
      rintro _ σ26 k27 ⟨rfl, h29⟩
      change Zm _ _ _ _ _ _ 90 _ [] _
      exact r_return dX8_writeNode_90 rfl ⟨k27, rfl, h29⟩
  · have h30 := h2.2 c4
    refine r_aload_n dX8_writeNode_27 rfl ?_
    refine r_aload_n dX8_writeNode_28 rfl ?_
    refine r_iload_n dX8_writeNode_29 rfl ?_
    refine r_iconst dX8_writeNode_30 ?_
    refine r_ldcS (a := q 2) hq.2.2.2.1.1 dX8_writeNode_31 ?_
    refine n_callV (N := M_X8_writeSetting) (As := [.ref (zB X + o1), iV x2, iV 1, .ref (q 2)]) (st := []) dX8_writeNode_33 mk_X8_writeSetting km_RX8_65 kd_X8_writeSetting rfl (zlt hn rfl) sh_52 (q := (RX8, TX8, 1)) rfl rfl (zFits_rm d n n n (Nat.le_refl n)) (Nat.le_of_ble_eq_true rfl) rfl k0 h30 ?_
    rintro _ σ32 k33 ⟨rfl, h35⟩
    change Zm _ _ _ _ _ _ 36 _ [] _
    refine r_aload_n dX8_writeNode_36 rfl ?_
    refine r_aload_n dX8_writeNode_37 rfl ?_
    refine r_iload_n dX8_writeNode_38 rfl ?_
    refine r_iconst dX8_writeNode_39 ?_
    refine r_ldcS (a := q 3) hq.2.2.2.2.1.1 dX8_writeNode_40 ?_
    refine n_callV (N := M_X8_writeSetting) (As := [.ref (zB X + o1), iV x2, iV 2, .ref (q 3)]) (st := []) dX8_writeNode_42 mk_X8_writeSetting km_RX8_65 kd_X8_writeSetting rfl (zlt hn rfl) sh_52 (q := (RX8, TX8, 1)) rfl rfl (zFits_rm d n n n (Nat.le_refl n)) (Nat.le_of_ble_eq_true rfl) rfl k33 h35 ?_
    rintro _ σ37 k38 ⟨rfl, h40⟩
    change Zm _ _ _ _ _ _ 45 _ [] _
    refine r_aload_n dX8_writeNode_45 rfl ?_
    refine r_aload_n dX8_writeNode_46 rfl ?_
    refine r_iload_n dX8_writeNode_47 rfl ?_
    refine r_iconst dX8_writeNode_48 ?_
    refine r_ldcS (a := q 4) hq.2.2.2.2.2.1 dX8_writeNode_49 ?_
    refine n_callV (N := M_X8_writeSetting) (As := [.ref (zB X + o1), iV x2, iV 3, .ref (q 4)]) (st := []) dX8_writeNode_51 mk_X8_writeSetting km_RX8_65 kd_X8_writeSetting rfl (zlt hn rfl) sh_52 (q := (RX8, TX8, 1)) rfl rfl (zFits_rm d n n n (Nat.le_refl n)) (Nat.le_of_ble_eq_true rfl) rfl k38 h40 ?_
    rintro _ σ42 k43 ⟨rfl, h45⟩
    change Zm _ _ _ _ _ _ 54 _ [] _
    exact r_return dX8_writeNode_54 rfl ⟨k43, rfl, h45⟩
