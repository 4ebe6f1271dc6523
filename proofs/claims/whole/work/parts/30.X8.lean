/-! StoneRoom$Writer.writeGame -/
theorem dX8_writeGame_0 : decode M_X8_writeGame.2.1 0 = .ok (.aload_n 0, 1) := by decide +kernel
theorem dX8_writeGame_1 : decode M_X8_writeGame.2.1 1 = .ok (.getfield 9, 3) := by decide +kernel
theorem dX8_writeGame_4 : decode M_X8_writeGame.2.1 4 = .ok (.iconst 0, 1) := by decide +kernel
theorem dX8_writeGame_5 : decode M_X8_writeGame.2.1 5 = .ok (.putfield 15, 3) := by decide +kernel
theorem dX8_writeGame_8 : decode M_X8_writeGame.2.1 8 = .ok (.aload_n 0, 1) := by decide +kernel
theorem dX8_writeGame_9 : decode M_X8_writeGame.2.1 9 = .ok (.getfield 9, 3) := by decide +kernel
theorem dX8_writeGame_12 : decode M_X8_writeGame.2.1 12 = .ok (.bipush 40, 2) := by decide +kernel
theorem dX8_writeGame_14 : decode M_X8_writeGame.2.1 14 = .ok (.invokevirtual 21, 3) := by decide +kernel
theorem dX8_writeGame_17 : decode M_X8_writeGame.2.1 17 = .ok (.iconst 0, 1) := by decide +kernel
theorem dX8_writeGame_18 : decode M_X8_writeGame.2.1 18 = .ok (.istore_n 2, 1) := by decide +kernel
theorem dX8_writeGame_19 : decode M_X8_writeGame.2.1 19 = .ok (.iconst 0, 1) := by decide +kernel
theorem dX8_writeGame_20 : decode M_X8_writeGame.2.1 20 = .ok (.istore_n 3, 1) := by decide +kernel
theorem dX8_writeGame_21 : decode M_X8_writeGame.2.1 21 = .ok (.iload_n 3, 1) := by decide +kernel
theorem dX8_writeGame_22 : decode M_X8_writeGame.2.1 22 = .ok (.sipush 250, 3) := by decide +kernel
theorem dX8_writeGame_25 : decode M_X8_writeGame.2.1 25 = .ok (.if_icmp .ge 30, 3) := by decide +kernel
theorem dX8_writeGame_28 : decode M_X8_writeGame.2.1 28 = .ok (.aload_n 1, 1) := by decide +kernel
theorem dX8_writeGame_29 : decode M_X8_writeGame.2.1 29 = .ok (.iload_n 2, 1) := by decide +kernel
theorem dX8_writeGame_30 : decode M_X8_writeGame.2.1 30 = .ok (.invokevirtual 25, 3) := by decide +kernel
theorem dX8_writeGame_33 : decode M_X8_writeGame.2.1 33 = .ok (.ifCond .eq 22, 3) := by decide +kernel
theorem dX8_writeGame_36 : decode M_X8_writeGame.2.1 36 = .ok (.aload_n 0, 1) := by decide +kernel
theorem dX8_writeGame_37 : decode M_X8_writeGame.2.1 37 = .ok (.aload_n 1, 1) := by decide +kernel
theorem dX8_writeGame_38 : decode M_X8_writeGame.2.1 38 = .ok (.iload_n 2, 1) := by decide +kernel
theorem dX8_writeGame_39 : decode M_X8_writeGame.2.1 39 = .ok (.invokevirtual 31, 3) := by decide +kernel
theorem dX8_writeGame_42 : decode M_X8_writeGame.2.1 42 = .ok (.aload_n 0, 1) := by decide +kernel
theorem dX8_writeGame_43 : decode M_X8_writeGame.2.1 43 = .ok (.aload_n 1, 1) := by decide +kernel
theorem dX8_writeGame_44 : decode M_X8_writeGame.2.1 44 = .ok (.iload_n 2, 1) := by decide +kernel
theorem dX8_writeGame_45 : decode M_X8_writeGame.2.1 45 = .ok (.invokevirtual 35, 3) := by decide +kernel
theorem dX8_writeGame_48 : decode M_X8_writeGame.2.1 48 = .ok (.istore_n 2, 1) := by decide +kernel
theorem dX8_writeGame_49 : decode M_X8_writeGame.2.1 49 = .ok (.iinc 3 1, 3) := by decide +kernel
theorem dX8_writeGame_52 : decode M_X8_writeGame.2.1 52 = .ok (.goto (-31), 3) := by decide +kernel
theorem dX8_writeGame_55 : decode M_X8_writeGame.2.1 55 = .ok (.aload_n 0, 1) := by decide +kernel
theorem dX8_writeGame_56 : decode M_X8_writeGame.2.1 56 = .ok (.getfield 9, 3) := by decide +kernel
theorem dX8_writeGame_59 : decode M_X8_writeGame.2.1 59 = .ok (.bipush 41, 2) := by decide +kernel
theorem dX8_writeGame_61 : decode M_X8_writeGame.2.1 61 = .ok (.invokevirtual 21, 3) := by decide +kernel
theorem dX8_writeGame_64 : decode M_X8_writeGame.2.1 64 = .ok (.return_, 1) := by decide +kernel
def L_X8_writeGame_21 (X : ZX) (d n : Nat) (P : Option Value → ZSto → Prop) (o1 : Nat) (x2 : Int) (x3 : Int) (σ : ZSto) : Prop := R32 x2 → R32 x3 → ZOk n σ → Zn X M_X8_writeGame d n P 21 [some (.ref (zB X + 52)), some (.ref (zB X + o1)), some (iV x2), some (iV x3)] [] σ
theorem w_X8_writeGame {X : ZX} {d n : Nat} {P : ZSto → Prop} {o1 : Nat} {σ : ZSto} (hn : 73 ≤ n) (hc1 : zIsT o1) 
    (h : ZkV X M_X1_addByte d n [.ref (zB X + 31), iV 40] (sI σ 31 1 0) (fun σ3 => L_X8_writeGame_21 X d n (zpV P) o1 0 0 σ3)) :
    ZkV X M_X8_writeGame (d + 1) n [.ref (zB X + 52), .ref (zB X + o1)] σ P := by
  refine zk_of (ls := [some (.ref (zB X + 52)), some (.ref (zB X + o1)), none, none]) pl_RX8 (Nat.le_of_ble_eq_true rfl) rfl (fun k0 => ?_)
  unfold Zn
  refine r_aload_n dX8_writeGame_0 rfl ?_
  refine r_getP (a := 31) dX8_writeGame_1 kf_RX8_9 (zlt hn rfl) sh_52 rfl (k0.1 _ _ _ (zlt hn rfl) p_52_0) ?_
  refine r_iconst dX8_writeGame_4 ?_
  refine r_putI dX8_writeGame_5 kf_RX8_15 (zlt hn rfl) sh_31 rfl (Or.inl rfl) ?_
  have k1 := zok_o (i := 1) (x := 0) k0 sh_31 (r32c rfl)
  refine r_aload_n dX8_writeGame_8 rfl ?_
  refine r_getP (a := 31) dX8_writeGame_9 kf_RX8_9 (zlt hn rfl) sh_52 rfl (k1.1 _ _ _ (zlt hn rfl) p_52_0) ?_
  refine r_bipush dX8_writeGame_12 rfl ?_
  refine n_callV (N := M_X1_addByte) (As := [iV 40]) (st := []) dX8_writeGame_14 mk_X1_addByte km_RX8_21 kd_X1_addByte rfl (zlt hn rfl) sh_31 (q := (RX1, TX1, 2)) rfl rfl (zFits_rm d n n n (Nat.le_refl n)) (Nat.le_of_ble_eq_true rfl) rfl k1 h ?_
  rintro _ σ3 k4 ⟨rfl, h6⟩
  change Zm _ _ _ _ _ _ 17 _ [] _
  refine r_iconst dX8_writeGame_17 ?_
  refine r_istore_n dX8_writeGame_18 rfl rfl ?_
  refine r_iconst dX8_writeGame_19 ?_
  refine r_istore_n dX8_writeGame_20 rfl rfl ?_
  exact r_mask [true, true, true, true] rfl (h6 (r32c rfl) (r32c rfl) k4)
theorem b_X8_writeGame_21 {X : ZX} {d n : Nat} {P : ZSto → Prop} {o1 : Nat} {x2 : Int} {x3 : Int} {σ : ZSto} (hn : 73 ≤ n) (hc1 : zIsT o1)
    (h : (250 ≤ x3 → ZkV X M_X1_addByte d n [.ref (zB X + 31), iV 41] σ (fun σ5 => P σ5)) ∧ (¬ (250 ≤ x3) → ZkZ X M_X7_has d n [.ref (zB X + o1), iV x2] σ (fun v10 σ11 => (v10 = 0 → ZkV X M_X1_addByte d n [.ref (zB X + 31), iV 41] σ11 (fun σ19 => P σ19)) ∧ (¬ (v10 = 0) → ZkV X M_X8_writeNode d n [.ref (zB X + 52), .ref (zB X + o1), iV x2] σ11 (fun σ25 => ZkI X M_X8_nextToWrite d n [.ref (zB X + 52), .ref (zB X + o1), iV x2] σ25 (fun v29 σ30 => R32 (x3 + 1) ∧ L_X8_writeGame_21 X d n (zpV P) o1 v29 (x3 + 1) σ30)))))) :
    L_X8_writeGame_21 X d n (zpV P) o1 x2 x3 σ := by
  intro hx2 hx3 k0
  unfold Zn
  refine r_iload_n dX8_writeGame_21 rfl ?_
  refine r_sipush dX8_writeGame_22 rfl ?_
  refine r_icmp_ge (t := 55) dX8_writeGame_25 rfl hx3 (r32c rfl) (fun c1 => ?_) (fun c2 => ?_)
  · have h3 := h.1 c1
    refine r_aload_n dX8_writeGame_55 rfl ?_
    refine r_getP (a := 31) dX8_writeGame_56 kf_RX8_9 (zlt hn rfl) sh_52 rfl (k0.1 _ _ _ (zlt hn rfl) p_52_0) ?_
    refine r_bipush dX8_writeGame_59 rfl ?_
    refine n_callV (N := M_X1_addByte) (As := [iV 41]) (st := []) dX8_writeGame_61 mk_X1_addByte km_RX8_21 kd_X1_addByte rfl (zlt hn rfl) sh_31 (q := (RX1, TX1, 2)) rfl rfl (zFits_rm d n n n (Nat.le_refl n)) (Nat.le_of_ble_eq_true rfl) rfl k0 h3 ?_
    rintro _ σ5 k6 ⟨rfl, h8⟩
    change Zm _ _ _ _ _ _ 64 _ [] _
    exact r_return dX8_writeGame_64 rfl ⟨k6, rfl, h8⟩
  · have h9 := h.2 c2
    refine r_aload_n dX8_writeGame_28 rfl ?_
    refine r_iload_n dX8_writeGame_29 rfl ?_
    refine n_callV (N := M_X7_has) (As := [iV x2]) (st := []) dX8_writeGame_30 mk_X7_has km_RX8_25 kd_X7_has rfl (zT_lt hc1 hn) (zT_s hc1) (q := (RX7, TX7, 17)) rfl rfl (zFits_rm d n n n (Nat.le_refl n)) (Nat.le_of_ble_eq_true rfl) rfl k0 h9 ?_
    rintro _ σ11 k12 ⟨v10, rfl, h13, h14⟩
    change Zm _ _ _ _ _ _ 33 _ [iV v10] _
    refine r_if_eq (t := 55) dX8_writeGame_33 rfl (r32_z h13)  (fun c15 => ?_) (fun c16 => ?_)
    · have h17 := h14.1 c15
      refine r_aload_n dX8_writeGame_55 rfl ?_
      refine r_getP (a := 31) dX8_writeGame_56 kf_RX8_9 (zlt hn rfl) sh_52 rfl (k12.1 _ _ _ (zlt hn rfl) p_52_0) ?_
      refine r_bipush dX8_writeGame_59 rfl ?_
      refine n_callV (N := M_X1_addByte) (As := [iV 41]) (st := []) dX8_writeGame_61 mk_X1_addByte km_RX8_21 kd_X1_addByte rfl (zlt hn rfl) sh_31 (q := (RX1, TX1, 2)) rfl rfl (zFits_rm d n n n (Nat.le_refl n)) (Nat.le_of_ble_eq_true rfl) rfl k12 h17 ?_
      rintro _ σ19 k20 ⟨rfl, h22⟩
      change Zm _ _ _ _ _ _ 64 _ [] _
      exact r_return dX8_writeGame_64 rfl ⟨k20, rfl, h22⟩
    · have h23 := h14.2 c16
      refine r_aload_n dX8_writeGame_36 rfl ?_
      refine r_aload_n dX8_writeGame_37 rfl ?_
      refine r_iload_n dX8_writeGame_38 rfl ?_
      refine n_callV (N := M_X8_writeNode) (As := [.ref (zB X + o1), iV x2]) (st := []) dX8_writeGame_39 mk_X8_writeNode km_RX8_31 kd_X8_writeNode rfl (zlt hn rfl) sh_52 (q := (RX8, TX8, 1)) rfl rfl (zFits_rm d n n n (Nat.le_refl n)) (Nat.le_of_ble_eq_true rfl) rfl k12 h23 ?_
      rintro _ σ25 k26 ⟨rfl, h28⟩
      change Zm _ _ _ _ _ _ 42 _ [] _
      refine r_aload_n dX8_writeGame_42 rfl ?_
      refine r_aload_n dX8_writeGame_43 rfl ?_
      refine r_iload_n dX8_writeGame_44 rfl ?_
      refine n_callV (N := M_X8_nextToWrite) (As := [.ref (zB X + o1), iV x2]) (st := []) dX8_writeGame_45 mk_X8_nextToWrite km_RX8_35 kd_X8_nextToWrite rfl (zlt hn rfl) sh_52 (q := (RX8, TX8, 1)) rfl rfl (zFits_rm d n n n (Nat.le_refl n)) (Nat.le_of_ble_eq_true rfl) rfl k26 h28 ?_
      rintro _ σ30 k31 ⟨v29, rfl, h32, h33⟩
      change Zm _ _ _ _ _ _ 48 _ [iV v29] _
      refine r_istore_n dX8_writeGame_48 rfl rfl ?_
      refine r_iinc dX8_writeGame_49 rfl rfl rfl ?_
      refine r_goto (t := 21) dX8_writeGame_52 rfl ?_
      obtain ⟨h34, h35⟩ := h33
      exact r_mask [true, true, true, true] rfl (h35 h32 h34 k31)
/-! StoneRoom$Writer.nextToWrite -/
theorem dX8_nextToWrite_0 : decode M_X8_nextToWrite.2.1 0 = .ok (.aload_n 1, 1) := by decide +kernel
theorem dX8_nextToWrite_1 : decode M_X8_nextToWrite.2.1 1 = .ok (.getfield 39, 3) := by decide +kernel
theorem dX8_nextToWrite_4 : decode M_X8_nextToWrite.2.1 4 = .ok (.iload_n 2, 1) := by decide +kernel
theorem dX8_nextToWrite_5 : decode M_X8_nextToWrite.2.1 5 = .ok (.iaload, 1) := by decide +kernel
theorem dX8_nextToWrite_6 : decode M_X8_nextToWrite.2.1 6 = .ok (.ifCond .le 29, 3) := by decide +kernel
theorem dX8_nextToWrite_9 : decode M_X8_nextToWrite.2.1 9 = .ok (.aload_n 1, 1) := by decide +kernel
theorem dX8_nextToWrite_10 : decode M_X8_nextToWrite.2.1 10 = .ok (.getfield 39, 3) := by decide +kernel
theorem dX8_nextToWrite_13 : decode M_X8_nextToWrite.2.1 13 = .ok (.iload_n 2, 1) := by decide +kernel
theorem dX8_nextToWrite_14 : decode M_X8_nextToWrite.2.1 14 = .ok (.iaload, 1) := by decide +kernel
theorem dX8_nextToWrite_15 : decode M_X8_nextToWrite.2.1 15 = .ok (.iconst 1, 1) := by decide +kernel
theorem dX8_nextToWrite_16 : decode M_X8_nextToWrite.2.1 16 = .ok (.if_icmp .le 12, 3) := by decide +kernel
theorem dX8_nextToWrite_19 : decode M_X8_nextToWrite.2.1 19 = .ok (.aload_n 0, 1) := by decide +kernel
theorem dX8_nextToWrite_20 : decode M_X8_nextToWrite.2.1 20 = .ok (.getfield 9, 3) := by decide +kernel
theorem dX8_nextToWrite_23 : decode M_X8_nextToWrite.2.1 23 = .ok (.bipush 40, 2) := by decide +kernel
theorem dX8_nextToWrite_25 : decode M_X8_nextToWrite.2.1 25 = .ok (.invokevirtual 21, 3) := by decide +kernel
theorem dX8_nextToWrite_28 : decode M_X8_nextToWrite.2.1 28 = .ok (.aload_n 1, 1) := by decide +kernel
theorem dX8_nextToWrite_29 : decode M_X8_nextToWrite.2.1 29 = .ok (.getfield 43, 3) := by decide +kernel
theorem dX8_nextToWrite_32 : decode M_X8_nextToWrite.2.1 32 = .ok (.iload_n 2, 1) := by decide +kernel
theorem dX8_nextToWrite_33 : decode M_X8_nextToWrite.2.1 33 = .ok (.iaload, 1) := by decide +kernel
theorem dX8_nextToWrite_34 : decode M_X8_nextToWrite.2.1 34 = .ok (.ireturn, 1) := by decide +kernel
theorem dX8_nextToWrite_35 : decode M_X8_nextToWrite.2.1 35 = .ok (.iload_n 2, 1) := by decide +kernel
theorem dX8_nextToWrite_36 : decode M_X8_nextToWrite.2.1 36 = .ok (.istore_n 3, 1) := by decide +kernel
theorem dX8_nextToWrite_37 : decode M_X8_nextToWrite.2.1 37 = .ok (.iconst 0, 1) := by decide +kernel
theorem dX8_nextToWrite_38 : decode M_X8_nextToWrite.2.1 38 = .ok (.istore 4, 2) := by decide +kernel
theorem dX8_nextToWrite_40 : decode M_X8_nextToWrite.2.1 40 = .ok (.iload 4, 2) := by decide +kernel
theorem dX8_nextToWrite_42 : decode M_X8_nextToWrite.2.1 42 = .ok (.sipush 250, 3) := by decide +kernel
theorem dX8_nextToWrite_45 : decode M_X8_nextToWrite.2.1 45 = .ok (.if_icmp .ge 81, 3) := by decide +kernel
theorem dX8_nextToWrite_48 : decode M_X8_nextToWrite.2.1 48 = .ok (.aload_n 1, 1) := by decide +kernel
theorem dX8_nextToWrite_49 : decode M_X8_nextToWrite.2.1 49 = .ok (.aload_n 1, 1) := by decide +kernel
theorem dX8_nextToWrite_50 : decode M_X8_nextToWrite.2.1 50 = .ok (.iload_n 3, 1) := by decide +kernel
theorem dX8_nextToWrite_51 : decode M_X8_nextToWrite.2.1 51 = .ok (.invokevirtual 46, 3) := by decide +kernel
theorem dX8_nextToWrite_54 : decode M_X8_nextToWrite.2.1 54 = .ok (.invokevirtual 25, 3) := by decide +kernel
theorem dX8_nextToWrite_57 : decode M_X8_nextToWrite.2.1 57 = .ok (.ifCond .eq 69, 3) := by decide +kernel
theorem dX8_nextToWrite_60 : decode M_X8_nextToWrite.2.1 60 = .ok (.aload_n 1, 1) := by decide +kernel
theorem dX8_nextToWrite_61 : decode M_X8_nextToWrite.2.1 61 = .ok (.getfield 50, 3) := by decide +kernel
theorem dX8_nextToWrite_64 : decode M_X8_nextToWrite.2.1 64 = .ok (.iload_n 3, 1) := by decide +kernel
theorem dX8_nextToWrite_65 : decode M_X8_nextToWrite.2.1 65 = .ok (.iaload, 1) := by decide +kernel
theorem dX8_nextToWrite_66 : decode M_X8_nextToWrite.2.1 66 = .ok (.istore 5, 2) := by decide +kernel
theorem dX8_nextToWrite_68 : decode M_X8_nextToWrite.2.1 68 = .ok (.aload_n 1, 1) := by decide +kernel
theorem dX8_nextToWrite_69 : decode M_X8_nextToWrite.2.1 69 = .ok (.getfield 39, 3) := by decide +kernel
theorem dX8_nextToWrite_72 : decode M_X8_nextToWrite.2.1 72 = .ok (.iload 5, 2) := by decide +kernel
theorem dX8_nextToWrite_74 : decode M_X8_nextToWrite.2.1 74 = .ok (.iaload, 1) := by decide +kernel
theorem dX8_nextToWrite_75 : decode M_X8_nextToWrite.2.1 75 = .ok (.iconst 1, 1) := by decide +kernel
theorem dX8_nextToWrite_76 : decode M_X8_nextToWrite.2.1 76 = .ok (.if_icmp .le 12, 3) := by decide +kernel
theorem dX8_nextToWrite_79 : decode M_X8_nextToWrite.2.1 79 = .ok (.aload_n 0, 1) := by decide +kernel
theorem dX8_nextToWrite_80 : decode M_X8_nextToWrite.2.1 80 = .ok (.getfield 9, 3) := by decide +kernel
theorem dX8_nextToWrite_83 : decode M_X8_nextToWrite.2.1 83 = .ok (.bipush 41, 2) := by decide +kernel
theorem dX8_nextToWrite_85 : decode M_X8_nextToWrite.2.1 85 = .ok (.invokevirtual 21, 3) := by decide +kernel
theorem dX8_nextToWrite_88 : decode M_X8_nextToWrite.2.1 88 = .ok (.aload_n 1, 1) := by decide +kernel
theorem dX8_nextToWrite_89 : decode M_X8_nextToWrite.2.1 89 = .ok (.aload_n 1, 1) := by decide +kernel
theorem dX8_nextToWrite_90 : decode M_X8_nextToWrite.2.1 90 = .ok (.getfield 53, 3) := by decide +kernel
theorem dX8_nextToWrite_93 : decode M_X8_nextToWrite.2.1 93 = .ok (.iload_n 3, 1) := by decide +kernel
theorem dX8_nextToWrite_94 : decode M_X8_nextToWrite.2.1 94 = .ok (.iaload, 1) := by decide +kernel
theorem dX8_nextToWrite_95 : decode M_X8_nextToWrite.2.1 95 = .ok (.invokevirtual 25, 3) := by decide +kernel
theorem dX8_nextToWrite_98 : decode M_X8_nextToWrite.2.1 98 = .ok (.ifCond .eq 19, 3) := by decide +kernel
theorem dX8_nextToWrite_101 : decode M_X8_nextToWrite.2.1 101 = .ok (.aload_n 0, 1) := by decide +kernel
theorem dX8_nextToWrite_102 : decode M_X8_nextToWrite.2.1 102 = .ok (.getfield 9, 3) := by decide +kernel
theorem dX8_nextToWrite_105 : decode M_X8_nextToWrite.2.1 105 = .ok (.bipush 40, 2) := by decide +kernel
theorem dX8_nextToWrite_107 : decode M_X8_nextToWrite.2.1 107 = .ok (.invokevirtual 21, 3) := by decide +kernel
theorem dX8_nextToWrite_110 : decode M_X8_nextToWrite.2.1 110 = .ok (.aload_n 1, 1) := by decide +kernel
theorem dX8_nextToWrite_111 : decode M_X8_nextToWrite.2.1 111 = .ok (.getfield 53, 3) := by decide +kernel
theorem dX8_nextToWrite_114 : decode M_X8_nextToWrite.2.1 114 = .ok (.iload_n 3, 1) := by decide +kernel
theorem dX8_nextToWrite_115 : decode M_X8_nextToWrite.2.1 115 = .ok (.iaload, 1) := by decide +kernel
theorem dX8_nextToWrite_116 : decode M_X8_nextToWrite.2.1 116 = .ok (.ireturn, 1) := by decide +kernel
theorem dX8_nextToWrite_117 : decode M_X8_nextToWrite.2.1 117 = .ok (.iload 5, 2) := by decide +kernel
theorem dX8_nextToWrite_119 : decode M_X8_nextToWrite.2.1 119 = .ok (.istore_n 3, 1) := by decide +kernel
theorem dX8_nextToWrite_120 : decode M_X8_nextToWrite.2.1 120 = .ok (.iinc 4 1, 3) := by decide +kernel
theorem dX8_nextToWrite_123 : decode M_X8_nextToWrite.2.1 123 = .ok (.goto (-83), 3) := by decide +kernel
theorem dX8_nextToWrite_126 : decode M_X8_nextToWrite.2.1 126 = .ok (.iconst (-1), 1) := by decide +kernel
theorem dX8_nextToWrite_127 : decode M_X8_nextToWrite.2.1 127 = .ok (.ireturn, 1) := by decide +kernel
def L_X8_nextToWrite_40 (X : ZX) (d n : Nat) (P : Option Value → ZSto → Prop) (o1 : Nat) (x3 : Int) (x4 : Int) (σ : ZSto) : Prop := R32 x3 → R32 x4 → ZOk n σ → Zn X M_X8_nextToWrite d n P 40 [some (.ref (zB X + 52)), some (.ref (zB X + o1)), none, some (iV x3), some (iV x4), none] [] σ
theorem w_X8_nextToWrite {X : ZX} {d n : Nat} {P : Int → ZSto → Prop} {o1 : Nat} {x2 : Int} {σ : ZSto} (hn : 73 ≤ n) (hc1 : zIsT o1) (hx2 : R32 x2)
    (h : (0 ≤ x2 ∧ x2 < 250) ∧ (gI σ (o1 + 5) x2.toNat ≤ 0 → L_X8_nextToWrite_40 X d n (zpI P) o1 x2 0 σ) ∧ (¬ (gI σ (o1 + 5) x2.toNat ≤ 0) → (gI σ (o1 + 5) x2.toNat ≤ 1 → P (gI σ (o1 + 2) x2.toNat) σ) ∧ (¬ (gI σ (o1 + 5) x2.toNat ≤ 1) → ZkV X M_X1_addByte d n [.ref (zB X + 31), iV 40] σ (fun σ12 => P (gI σ12 (o1 + 2) x2.toNat) σ12)))) :
    ZkI X M_X8_nextToWrite (d + 1) n [.ref (zB X + 52), .ref (zB X + o1), iV x2] σ P := by
  refine zk_of (ls := [some (.ref (zB X + 52)), some (.ref (zB X + o1)), some (iV x2), none, none, none]) pl_RX8 (Nat.le_of_ble_eq_true rfl) rfl (fun k0 => ?_)
  unfold Zn
  refine r_aload_n dX8_nextToWrite_0 rfl ?_
  refine r_getP (a := (o1 + 5)) dX8_nextToWrite_1 kf_RX8_39 (zT_lt hc1 hn) (zT_s hc1) rfl (k0.1 _ _ _ (zT_lt hc1 hn) (zT_p4 hc1)) ?_
  refine r_iload_n dX8_nextToWrite_4 rfl ?_
  obtain ⟨h1, h2⟩ := h
  refine r_ialoadE dX8_nextToWrite_5 (zT_l4 hc1 hn) (zT_s4 hc1) h1.1 h1.2 rfl ?_
  refine r_if_le (t := 35) dX8_nextToWrite_6 rfl (k0.2.1 _ _)  (fun c3 => ?_) (fun c4 => ?_)
  · have h5 := h2.1 c3
    refine r_iload_n dX8_nextToWrite_35 rfl ?_
    refine r_istore_n dX8_nextToWrite_36 rfl rfl ?_
    refine r_iconst dX8_nextToWrite_37 ?_
    refine r_istore dX8_nextToWrite_38 rfl rfl ?_
    exact r_mask [true, true, false, true, true, false] rfl (h5 hx2 (r32c rfl) k0)
  · have h6 := h2.2 c4
    refine r_aload_n dX8_nextToWrite_9 rfl ?_
    refine r_getP (a := (o1 + 5)) dX8_nextToWrite_10 kf_RX8_39 (zT_lt hc1 hn) (zT_s hc1) rfl (k0.1 _ _ _ (zT_lt hc1 hn) (zT_p4 hc1)) ?_
    refine r_iload_n dX8_nextToWrite_13 rfl ?_
    refine r_ialoadE dX8_nextToWrite_14 (zT_l4 hc1 hn) (zT_s4 hc1) h1.1 h1.2 rfl ?_
    refine r_iconst dX8_nextToWrite_15 ?_
    refine r_icmp_le (t := 28) dX8_nextToWrite_16 rfl (k0.2.1 _ _) (r32c rfl) (fun c7 => ?_) (fun c8 => ?_)
    · have h9 := h6.1 c7
      refine r_aload_n dX8_nextToWrite_28 rfl ?_
      refine r_getP (a := (o1 + 2)) dX8_nextToWrite_29 kf_RX8_43 (zT_lt hc1 hn) (zT_s hc1) rfl (k0.1 _ _ _ (zT_lt hc1 hn) (zT_p1 hc1)) ?_
      refine r_iload_n dX8_nextToWrite_32 rfl ?_
      refine r_ialoadE dX8_nextToWrite_33 (zT_l1 hc1 hn) (zT_s1 hc1) h1.1 h1.2 rfl ?_
      exact r_ireturn dX8_nextToWrite_34 rfl ⟨k0, _, rfl, (k0.2.1 _ _), h9⟩
    · have h10 := h6.2 c8
      refine r_aload_n dX8_nextToWrite_19 rfl ?_
      refine r_getP (a := 31) dX8_nextToWrite_20 kf_RX8_9 (zlt hn rfl) sh_52 rfl (k0.1 _ _ _ (zlt hn rfl) p_52_0) ?_
      refine r_bipush dX8_nextToWrite_23 rfl ?_
      refine n_callV (N := M_X1_addByte) (As := [iV 40]) (st := []) dX8_nextToWrite_25 mk_X1_addByte km_RX8_21 kd_X1_addByte rfl (zlt hn rfl) sh_31 (q := (RX1, TX1, 2)) rfl rfl (zFits_rm d n n n (Nat.le_refl n)) (Nat.le_of_ble_eq_true rfl) rfl k0 h10 ?_
      rintro _ σ12 k13 ⟨rfl, h15⟩
      change Zm _ _ _ _ _ _ 28 _ [] _
      refine r_aload_n dX8_nextToWrite_28 rfl ?_
      refine r_getP (a := (o1 + 2)) dX8_nextToWrite_29 kf_RX8_43 (zT_lt hc1 hn) (zT_s hc1) rfl (k13.1 _ _ _ (zT_lt hc1 hn) (zT_p1 hc1)) ?_
      refine r_iload_n dX8_nextToWrite_32 rfl ?_
      refine r_ialoadE dX8_nextToWrite_33 (zT_l1 hc1 hn) (zT_s1 hc1) h1.1 h1.2 rfl ?_
      exact r_ireturn dX8_nextToWrite_34 rfl ⟨k13, _, rfl, (k13.2.1 _ _), h15⟩
theorem b_X8_nextToWrite_40 {X : ZX} {d n : Nat} {P : Int → ZSto → Prop} {o1 : Nat} {x3 : Int} {x4 : Int} {σ : ZSto} (hn : 73 ≤ n) (hc1 : zIsT o1)
    (h : (250 ≤ x4 → P ((-1)) σ) ∧ (¬ (250 ≤ x4) → ZkI X M_X7_parentOf d n [.ref (zB X + o1), iV x3] σ (fun v5 σ6 => ZkZ X M_X7_has d n [.ref (zB X + o1), iV v5] σ6 (fun v10 σ11 => (v10 = 0 → P ((-1)) σ11) ∧ (¬ (v10 = 0) → (0 ≤ x3 ∧ x3 < 250) ∧ (∀ y21 : Int, y21 = gI σ11 (o1 + 1) x3.toNat → (0 ≤ y21 ∧ y21 < 250) ∧ (gI σ11 (o1 + 5) y21.toNat ≤ 1 → ZkZ X M_X7_has d n [.ref (zB X + o1), iV (gI σ11 (o1 + 4) x3.toNat)] σ11 (fun v29 σ30 => (v29 = 0 → R32 (x4 + 1) ∧ L_X8_nextToWrite_40 X d n (zpI P) o1 y21 (x4 + 1) σ30) ∧ (¬ (v29 = 0) → ZkV X M_X1_addByte d n [.ref (zB X + 31), iV 40] σ30 (fun σ41 => P (gI σ41 (o1 + 4) x3.toNat) σ41)))) ∧ (¬ (gI σ11 (o1 + 5) y21.toNat ≤ 1) → ZkV X M_X1_addByte d n [.ref (zB X + 31), iV 41] σ11 (fun σ47 => ZkZ X M_X7_has d n [.ref (zB X + o1), iV (gI σ47 (o1 + 4) x3.toNat)] σ47 (fun v51 σ52 => (v51 = 0 → R32 (x4 + 1) ∧ L_X8_nextToWrite_40 X d n (zpI P) o1 y21 (x4 + 1) σ52) ∧ (¬ (v51 = 0) → ZkV X M_X1_addByte d n [.ref (zB X + 31), iV 40] σ52 (fun σ63 => P (gI σ63 (o1 + 4) x3.toNat) σ63))))))))))) :
    L_X8_nextToWrite_40 X d n (zpI P) o1 x3 x4 σ := by
  intro hx3 hx4 k0
  unfold Zn
  refine r_iload dX8_nextToWrite_40 rfl ?_
  refine r_sipush dX8_nextToWrite_42 rfl ?_
  refine r_icmp_ge (t := 126) dX8_nextToWrite_45 rfl hx4 (r32c rfl) (fun c1 => ?_) (fun c2 => ?_)
  · have h3 := h.1 c1
    refine r_iconst dX8_nextToWrite_126 ?_
    exact r_ireturn dX8_nextToWrite_127 rfl ⟨k0, _, rfl, (r32c rfl), h3⟩
  · have h4 := h.2 c2
    refine r_aload_n dX8_nextToWrite_48 rfl ?_
    refine r_aload_n dX8_nextToWrite_49 rfl ?_
    refine r_iload_n dX8_nextToWrite_50 rfl ?_
    refine n_callV (N := M_X7_parentOf) (As := [iV x3]) (st := [.ref (zB X + o1)]) dX8_nextToWrite_51 mk_X7_parentOf km_RX8_46 kd_X7_parentOf rfl (zT_lt hc1 hn) (zT_s hc1) (q := (RX7, TX7, 17)) rfl rfl (zFits_rm d n n n (Nat.le_refl n)) (Nat.le_of_ble_eq_true rfl) rfl k0 h4 ?_
    rintro _ σ6 k7 ⟨v5, rfl, h8, h9⟩
    change Zm _ _ _ _ _ _ 54 _ [iV v5, .ref (zB X + o1)] _
    refine n_callV (N := M_X7_has) (As := [iV v5]) (st := []) dX8_nextToWrite_54 mk_X7_has km_RX8_25 kd_X7_has rfl (zT_lt hc1 hn) (zT_s hc1) (q := (RX7, TX7, 17)) rfl rfl (zFits_rm d n n n (Nat.le_refl n)) (Nat.le_of_ble_eq_true rfl) rfl k7 h9 ?_
    rintro _ σ11 k12 ⟨v10, rfl, h13, h14⟩
    change Zm _ _ _ _ _ _ 57 _ [iV v10] _
    refine r_if_eq (t := 126) dX8_nextToWrite_57 rfl (r32_z h13)  (fun c15 => ?_) (fun c16 => ?_)
    · have h17 := h14.1 c15
      refine r_iconst dX8_nextToWrite_126 ?_
      exact r_ireturn dX8_nextToWrite_127 rfl ⟨k12, _, rfl, (r32c rfl), h17⟩
    · have h18 := h14.2 c16
      refine r_aload_n dX8_nextToWrite_60 rfl ?_
      refine r_getP (a := (o1 + 1)) dX8_nextToWrite_61 kf_RX8_50 (zT_lt hc1 hn) (zT_s hc1) rfl (k12.1 _ _ _ (zT_lt hc1 hn) (zT_p0 hc1)) ?_
      refine r_iload_n dX8_nextToWrite_64 rfl ?_
      obtain ⟨h19, h20⟩ := h18
      refine r_ialoadE dX8_nextToWrite_65 (zT_l0 hc1 hn) (zT_s0 hc1) h19.1 h19.2 rfl ?_
      refine r_name (fun y21 e22 => ?_)
      have h23 := h20 y21 e22
      refine r_istore dX8_nextToWrite_66 rfl rfl ?_
      refine r_aload_n dX8_nextToWrite_68 rfl ?_
      refine r_getP (a := (o1 + 5)) dX8_nextToWrite_69 kf_RX8_39 (zT_lt hc1 hn) (zT_s hc1) rfl (k12.1 _ _ _ (zT_lt hc1 hn) (zT_p4 hc1)) ?_
      refine r_iload dX8_nextToWrite_72 rfl ?_
      obtain ⟨h24, h25⟩ := h23
      refine r_ialoadE dX8_nextToWrite_74 (zT_l4 hc1 hn) (zT_s4 hc1) h24.1 h24.2 rfl ?_
      refine r_iconst dX8_nextToWrite_75 ?_
      refine r_icmp_le (t := 88) dX8_nextToWrite_76 rfl (k12.2.1 _ _) (r32c rfl) (fun c26 => ?_) (fun c27 => ?_)
      · have h28 := h25.1 c26
        refine r_aload_n dX8_nextToWrite_88 rfl ?_
        refine r_aload_n dX8_nextToWrite_89 rfl ?_
        refine r_getP (a := (o1 + 4)) dX8_nextToWrite_90 kf_RX8_53 (zT_lt hc1 hn) (zT_s hc1) rfl (k12.1 _ _ _ (zT_lt hc1 hn) (zT_p3 hc1)) ?_
        refine r_iload_n dX8_nextToWrite_93 rfl ?_
        refine r_ialoadE dX8_nextToWrite_94 (zT_l3 hc1 hn) (zT_s3 hc1) h19.1 h19.2 rfl ?_
        refine n_callV (N := M_X7_has) (As := [iV (gI σ11 (o1 + 4) x3.toNat)]) (st := []) dX8_nextToWrite_95 mk_X7_has km_RX8_25 kd_X7_has rfl (zT_lt hc1 hn) (zT_s hc1) (q := (RX7, TX7, 17)) rfl rfl (zFits_rm d n n n (Nat.le_refl n)) (Nat.le_of_ble_eq_true rfl) rfl k12 h28 ?_
        rintro _ σ30 k31 ⟨v29, rfl, h32, h33⟩
        change Zm _ _ _ _ _ _ 98 _ [iV v29] _
        refine r_if_eq (t := 117) dX8_nextToWrite_98 rfl (r32_z h32)  (fun c34 => ?_) (fun c35 => ?_)
        · have h36 := h33.1 c34
          refine r_iload dX8_nextToWrite_117 rfl ?_
          refine r_istore_n dX8_nextToWrite_119 rfl rfl ?_
          refine r_iinc dX8_nextToWrite_120 rfl rfl rfl ?_
          refine r_goto (t := 40) dX8_nextToWrite_123 rfl ?_
          obtain ⟨h37, h38⟩ := h36
          exact r_mask [true, true, false, true, true, false] rfl (h38 (by rw [e22]; exact (k12.2.1 _ _)) h37 k31)
        · have h39 := h33.2 c35
          refine r_aload_n dX8_nextToWrite_101 rfl ?_
          refine r_getP (a := 31) dX8_nextToWrite_102 kf_RX8_9 (zlt hn rfl) sh_52 rfl (k31.1 _ _ _ (zlt hn rfl) p_52_0) ?_
          refine r_bipush dX8_nextToWrite_105 rfl ?_
          refine n_callV (N := M_X1_addByte) (As := [iV 40]) (st := []) dX8_nextToWrite_107 mk_X1_addByte km_RX8_21 kd_X1_addByte rfl (zlt hn rfl) sh_31 (q := (RX1, TX1, 2)) rfl rfl (zFits_rm d n n n (Nat.le_refl n)) (Nat.le_of_ble_eq_true rfl) rfl k31 h39 ?_
          rintro _ σ41 k42 ⟨rfl, h44⟩
          change Zm _ _ _ _ _ _ 110 _ [] _
          refine r_aload_n dX8_nextToWrite_110 rfl ?_
          refine r_getP (a := (o1 + 4)) dX8_nextToWrite_111 kf_RX8_53 (zT_lt hc1 hn) (zT_s hc1) rfl (k42.1 _ _ _ (zT_lt hc1 hn) (zT_p3 hc1)) ?_
          refine r_iload_n dX8_nextToWrite_114 rfl ?_
          refine r_ialoadE dX8_nextToWrite_115 (zT_l3 hc1 hn) (zT_s3 hc1) h19.1 h19.2 rfl ?_
          exact r_ireturn dX8_nextToWrite_116 rfl ⟨k42, _, rfl, (k42.2.1 _ _), h44⟩
      · have h45 := h25.2 c27
        refine r_aload_n dX8_nextToWrite_79 rfl ?_
        refine r_getP (a := 31) dX8_nextToWrite_80 kf_RX8_9 (zlt hn rfl) sh_52 rfl (k12.1 _ _ _ (zlt hn rfl) p_52_0) ?_
        refine r_bipush dX8_nextToWrite_83 rfl ?_
        refine n_callV (N := M_X1_addByte) (As := [iV 41]) (st := []) dX8_nextToWrite_85 mk_X1_addByte km_RX8_21 kd_X1_addByte rfl (zlt hn rfl) sh_31 (q := (RX1, TX1, 2)) rfl rfl (zFits_rm d n n n (Nat.le_refl n)) (Nat.le_of_ble_eq_true rfl) rfl k12 h45 ?_
        rintro _ σ47 k48 ⟨rfl, h50⟩
        change Zm _ _ _ _ _ _ 88 _ [] _
        refine r_aload_n dX8_nextToWrite_88 rfl ?_
        refine r_aload_n dX8_nextToWrite_89 rfl ?_
        refine r_getP (a := (o1 + 4)) dX8_nextToWrite_90 kf_RX8_53 (zT_lt hc1 hn) (zT_s hc1) rfl (k48.1 _ _ _ (zT_lt hc1 hn) (zT_p3 hc1)) ?_
        refine r_iload_n dX8_nextToWrite_93 rfl ?_
        refine r_ialoadE dX8_nextToWrite_94 (zT_l3 hc1 hn) (zT_s3 hc1) h19.1 h19.2 rfl ?_
        refine n_callV (N := M_X7_has) (As := [iV (gI σ47 (o1 + 4) x3.toNat)]) (st := []) dX8_nextToWrite_95 mk_X7_has km_RX8_25 kd_X7_has rfl (zT_lt hc1 hn) (zT_s hc1) (q := (RX7, TX7, 17)) rfl rfl (zFits_rm d n n n (Nat.le_refl n)) (Nat.le_of_ble_eq_true rfl) rfl k48 h50 ?_
        rintro _ σ52 k53 ⟨v51, rfl, h54, h55⟩
        change Zm _ _ _ _ _ _ 98 _ [iV v51] _
        refine r_if_eq (t := 117) dX8_nextToWrite_98 rfl (r32_z h54)  (fun c56 => ?_) (fun c57 => ?_)
        · have h58 := h55.1 c56
          refine r_iload dX8_nextToWrite_117 rfl ?_
          refine r_istore_n dX8_nextToWrite_119 rfl rfl ?_
          refine r_iinc dX8_nextToWrite_120 rfl rfl rfl ?_
          refine r_goto (t := 40) dX8_nextToWrite_123 rfl ?_
          obtain ⟨h59, h60⟩ := h58
          exact r_mask [true, true, false, true, true, false] rfl (h60 (by rw [e22]; exact (k12.2.1 _ _)) h59 k53)
        · have h61 := h55.2 c57
          refine r_aload_n dX8_nextToWrite_101 rfl ?_
          refine r_getP (a := 31) dX8_nextToWrite_102 kf_RX8_9 (zlt hn rfl) sh_52 rfl (k53.1 _ _ _ (zlt hn rfl) p_52_0) ?_
          refine r_bipush dX8_nextToWrite_105 rfl ?_
          refine n_callV (N := M_X1_addByte) (As := [iV 40]) (st := []) dX8_nextToWrite_107 mk_X1_addByte km_RX8_21 kd_X1_addByte rfl (zlt hn rfl) sh_31 (q := (RX1, TX1, 2)) rfl rfl (zFits_rm d n n n (Nat.le_refl n)) (Nat.le_of_ble_eq_true rfl) rfl k53 h61 ?_
          rintro _ σ63 k64 ⟨rfl, h66⟩
          change Zm _ _ _ _ _ _ 110 _ [] _
          refine r_aload_n dX8_nextToWrite_110 rfl ?_
          refine r_getP (a := (o1 + 4)) dX8_nextToWrite_111 kf_RX8_53 (zT_lt hc1 hn) (zT_s hc1) rfl (k64.1 _ _ _ (zT_lt hc1 hn) (zT_p3 hc1)) ?_
          refine r_iload_n dX8_nextToWrite_114 rfl ?_
          refine r_ialoadE dX8_nextToWrite_115 (zT_l3 hc1 hn) (zT_s3 hc1) h19.1 h19.2 rfl ?_
          exact r_ireturn dX8_nextToWrite_116 rfl ⟨k64, _, rfl, (k64.2.1 _ _), h66⟩
/-! StoneRoom$Writer.writeNumber -/
theorem dX8_writeNumber_0 : decode M_X8_writeNumber.2.1 0 = .ok (.aload_n 0, 1) := by decide +kernel
theorem dX8_writeNumber_1 : decode M_X8_writeNumber.2.1 1 = .ok (.getfield 9, 3) := by decide +kernel
theorem dX8_writeNumber_4 : decode M_X8_writeNumber.2.1 4 = .ok (.bipush 91, 2) := by decide +kernel
theorem dX8_writeNumber_6 : decode M_X8_writeNumber.2.1 6 = .ok (.invokevirtual 21, 3) := by decide +kernel
theorem dX8_writeNumber_9 : decode M_X8_writeNumber.2.1 9 = .ok (.iload_n 1, 1) := by decide +kernel
theorem dX8_writeNumber_10 : decode M_X8_writeNumber.2.1 10 = .ok (.ifCond .ge 12, 3) := by decide +kernel
theorem dX8_writeNumber_13 : decode M_X8_writeNumber.2.1 13 = .ok (.aload_n 0, 1) := by decide +kernel
theorem dX8_writeNumber_14 : decode M_X8_writeNumber.2.1 14 = .ok (.getfield 9, 3) := by decide +kernel
theorem dX8_writeNumber_17 : decode M_X8_writeNumber.2.1 17 = .ok (.bipush 45, 2) := by decide +kernel
theorem dX8_writeNumber_19 : decode M_X8_writeNumber.2.1 19 = .ok (.invokevirtual 21, 3) := by decide +kernel
theorem dX8_writeNumber_22 : decode M_X8_writeNumber.2.1 22 = .ok (.iload_n 1, 1) := by decide +kernel
theorem dX8_writeNumber_23 : decode M_X8_writeNumber.2.1 23 = .ok (.invokestatic 99, 3) := by decide +kernel
theorem dX8_writeNumber_26 : decode M_X8_writeNumber.2.1 26 = .ok (.istore_n 2, 1) := by decide +kernel
theorem dX8_writeNumber_27 : decode M_X8_writeNumber.2.1 27 = .ok (.iload_n 2, 1) := by decide +kernel
theorem dX8_writeNumber_28 : decode M_X8_writeNumber.2.1 28 = .ok (.bipush 100, 2) := by decide +kernel
theorem dX8_writeNumber_30 : decode M_X8_writeNumber.2.1 30 = .ok (.if_icmp .lt 20, 3) := by decide +kernel
theorem dX8_writeNumber_33 : decode M_X8_writeNumber.2.1 33 = .ok (.aload_n 0, 1) := by decide +kernel
theorem dX8_writeNumber_34 : decode M_X8_writeNumber.2.1 34 = .ok (.getfield 9, 3) := by decide +kernel
theorem dX8_writeNumber_37 : decode M_X8_writeNumber.2.1 37 = .ok (.bipush 48, 2) := by decide +kernel
theorem dX8_writeNumber_39 : decode M_X8_writeNumber.2.1 39 = .ok (.iload_n 2, 1) := by decide +kernel
theorem dX8_writeNumber_40 : decode M_X8_writeNumber.2.1 40 = .ok (.bipush 100, 2) := by decide +kernel
theorem dX8_writeNumber_42 : decode M_X8_writeNumber.2.1 42 = .ok (.idiv, 1) := by decide +kernel
theorem dX8_writeNumber_43 : decode M_X8_writeNumber.2.1 43 = .ok (.bipush 10, 2) := by decide +kernel
theorem dX8_writeNumber_45 : decode M_X8_writeNumber.2.1 45 = .ok (.irem, 1) := by decide +kernel
theorem dX8_writeNumber_46 : decode M_X8_writeNumber.2.1 46 = .ok (.iadd, 1) := by decide +kernel
theorem dX8_writeNumber_47 : decode M_X8_writeNumber.2.1 47 = .ok (.invokevirtual 21, 3) := by decide +kernel
theorem dX8_writeNumber_50 : decode M_X8_writeNumber.2.1 50 = .ok (.iload_n 2, 1) := by decide +kernel
theorem dX8_writeNumber_51 : decode M_X8_writeNumber.2.1 51 = .ok (.bipush 10, 2) := by decide +kernel
theorem dX8_writeNumber_53 : decode M_X8_writeNumber.2.1 53 = .ok (.if_icmp .lt 20, 3) := by decide +kernel
theorem dX8_writeNumber_56 : decode M_X8_writeNumber.2.1 56 = .ok (.aload_n 0, 1) := by decide +kernel
theorem dX8_writeNumber_57 : decode M_X8_writeNumber.2.1 57 = .ok (.getfield 9, 3) := by decide +kernel
theorem dX8_writeNumber_60 : decode M_X8_writeNumber.2.1 60 = .ok (.bipush 48, 2) := by decide +kernel
theorem dX8_writeNumber_62 : decode M_X8_writeNumber.2.1 62 = .ok (.iload_n 2, 1) := by decide +kernel
theorem dX8_writeNumber_63 : decode M_X8_writeNumber.2.1 63 = .ok (.bipush 10, 2) := by decide +kernel
theorem dX8_writeNumber_65 : decode M_X8_writeNumber.2.1 65 = .ok (.idiv, 1) := by decide +kernel
theorem dX8_writeNumber_66 : decode M_X8_writeNumber.2.1 66 = .ok (.bipush 10, 2) := by decide +kernel
theorem dX8_writeNumber_68 : decode M_X8_writeNumber.2.1 68 = .ok (.irem, 1) := by decide +kernel
theorem dX8_writeNumber_69 : decode M_X8_writeNumber.2.1 69 = .ok (.iadd, 1) := by decide +kernel
theorem dX8_writeNumber_70 : decode M_X8_writeNumber.2.1 70 = .ok (.invokevirtual 21, 3) := by decide +kernel
theorem dX8_writeNumber_73 : decode M_X8_writeNumber.2.1 73 = .ok (.aload_n 0, 1) := by decide +kernel
theorem dX8_writeNumber_74 : decode M_X8_writeNumber.2.1 74 = .ok (.getfield 9, 3) := by decide +kernel
theorem dX8_writeNumber_77 : decode M_X8_writeNumber.2.1 77 = .ok (.bipush 48, 2) := by decide +kernel
theorem dX8_writeNumber_79 : decode M_X8_writeNumber.2.1 79 = .ok (.iload_n 2, 1) := by decide +kernel
theorem dX8_writeNumber_80 : decode M_X8_writeNumber.2.1 80 = .ok (.bipush 10, 2) := by decide +kernel
theorem dX8_writeNumber_82 : decode M_X8_writeNumber.2.1 82 = .ok (.irem, 1) := by decide +kernel
theorem dX8_writeNumber_83 : decode M_X8_writeNumber.2.1 83 = .ok (.iadd, 1) := by decide +kernel
theorem dX8_writeNumber_84 : decode M_X8_writeNumber.2.1 84 = .ok (.invokevirtual 21, 3) := by decide +kernel
theorem dX8_writeNumber_87 : decode M_X8_writeNumber.2.1 87 = .ok (.aload_n 0, 1) := by decide +kernel
theorem dX8_writeNumber_88 : decode M_X8_writeNumber.2.1 88 = .ok (.getfield 9, 3) := by decide +kernel
theorem dX8_writeNumber_91 : decode M_X8_writeNumber.2.1 91 = .ok (.bipush 93, 2) := by decide +kernel
theorem dX8_writeNumber_93 : decode M_X8_writeNumber.2.1 93 = .ok (.invokevirtual 21, 3) := by decide +kernel
theorem dX8_writeNumber_96 : decode M_X8_writeNumber.2.1 96 = .ok (.return_, 1) := by decide +kernel
def L_X8_writeNumber_22 (X : ZX) (d n : Nat) (P : Option Value → ZSto → Prop) (x1 : Int) (σ : ZSto) : Prop := R32 x1 → ZOk n σ → Zn X M_X8_writeNumber d n P 22 [some (.ref (zB X + 52)), some (iV x1), none] [] σ
def L_X8_writeNumber_50 (X : ZX) (d n : Nat) (P : Option Value → ZSto → Prop) (x2 : Int) (σ : ZSto) : Prop := R32 x2 → ZOk n σ → Zn X M_X8_writeNumber d n P 50 [some (.ref (zB X + 52)), none, some (iV x2)] [] σ
theorem w_X8_writeNumber {X : ZX} {d n : Nat} {P : ZSto → Prop} {x1 : Int} {σ : ZSto} (hn : 73 ≤ n)  (hx1 : R32 x1)
    (h : ZkV X M_X1_addByte d n [.ref (zB X + 31), iV 91] σ (fun σ2 => (0 ≤ x1 → L_X8_writeNumber_22 X d n (zpV P) x1 σ2) ∧ (¬ (0 ≤ x1) → ZkV X M_X1_addByte d n [.ref (zB X + 31), iV 45] σ2 (fun σ11 => L_X8_writeNumber_22 X d n (zpV P) x1 σ11)))) :
    ZkV X M_X8_writeNumber (d + 1) n [.ref (zB X + 52), iV x1] σ P := by
  refine zk_of (ls := [some (.ref (zB X + 52)), some (iV x1), none]) pl_RX8 (Nat.le_of_ble_eq_true rfl) rfl (fun k0 => ?_)
  unfold Zn
  refine r_aload_n dX8_writeNumber_0 rfl ?_
  refine r_getP (a := 31) dX8_writeNumber_1 kf_RX8_9 (zlt hn rfl) sh_52 rfl (k0.1 _ _ _ (zlt hn rfl) p_52_0) ?_
  refine r_bipush dX8_writeNumber_4 rfl ?_
  refine n_callV (N := M_X1_addByte) (As := [iV 91]) (st := []) dX8_writeNumber_6 mk_X1_addByte km_RX8_21 kd_X1_addByte rfl (zlt hn rfl) sh_31 (q := (RX1, TX1, 2)) rfl rfl (zFits_rm d n n n (Nat.le_refl n)) (Nat.le_of_ble_eq_true rfl) rfl k0 h ?_
  rintro _ σ2 k3 ⟨rfl, h5⟩
  change Zm _ _ _ _ _ _ 9 _ [] _
  refine r_iload_n dX8_writeNumber_9 rfl ?_
  refine r_if_ge (t := 22) dX8_writeNumber_10 rfl hx1  (fun c6 => ?_) (fun c7 => ?_)
  · have h8 := h5.1 c6
    exact r_mask [true, true, false] rfl (h8 hx1 k3)
  · have h9 := h5.2 c7
    refine r_aload_n dX8_writeNumber_13 rfl ?_
    refine r_getP (a := 31) dX8_writeNumber_14 kf_RX8_9 (zlt hn rfl) sh_52 rfl (k3.1 _ _ _ (zlt hn rfl) p_52_0) ?_
    refine r_bipush dX8_writeNumber_17 rfl ?_
    refine n_callV (N := M_X1_addByte) (As := [iV 45]) (st := []) dX8_writeNumber_19 mk_X1_addByte km_RX8_21 kd_X1_addByte rfl (zlt hn rfl) sh_31 (q := (RX1, TX1, 2)) rfl rfl (zFits_rm d n n n (Nat.le_refl n)) (Nat.le_of_ble_eq_true rfl) rfl k3 h9 ?_
    rintro _ σ11 k12 ⟨rfl, h14⟩
    change Zm _ _ _ _ _ _ 22 _ [] _
    exact r_mask [true, true, false] rfl (h14 hx1 k12)
theorem b_X8_writeNumber_22 {X : ZX} {d n : Nat} {P : ZSto → Prop} {x1 : Int} {σ : ZSto} (hn : 73 ≤ n) 
    (h : R32 (absI x1) ∧ (absI x1 < 100 → L_X8_writeNumber_50 X d n (zpV P) (absI x1) σ) ∧ (¬ (absI x1 < 100) → (0 ≤ absI x1 ∧ absI x1 < 2147483648) ∧ (0 ≤ (absI x1) / 100 ∧ (absI x1) / 100 < 2147483648) ∧ ZkV X M_X1_addByte d n [.ref (zB X + 31), iV (48 + (((absI x1) / 100) % 10))] σ (fun σ12 => L_X8_writeNumber_50 X d n (zpV P) (absI x1) σ12))) :
    L_X8_writeNumber_22 X d n (zpV P) x1 σ := by
  intro hx1 k0
  unfold Zn
  refine r_iload_n dX8_writeNumber_22 rfl ?_
  refine r_mabs dX8_writeNumber_23 ka_RX8_99 kq_abs hx1 (zFits_rm d n n n (Nat.le_refl n)) (Nat.le_of_ble_eq_true rfl) ?_
  refine r_istore_n dX8_writeNumber_26 rfl rfl ?_
  refine r_iload_n dX8_writeNumber_27 rfl ?_
  refine r_bipush dX8_writeNumber_28 rfl ?_
  obtain ⟨h1, h2⟩ := h
  refine r_icmp_lt (t := 50) dX8_writeNumber_30 rfl h1 (r32c rfl) (fun c3 => ?_) (fun c4 => ?_)
  · have h5 := h2.1 c3
    exact r_mask [true, false, true] rfl (h5 h1 k0)
  · have h6 := h2.2 c4
    refine r_aload_n dX8_writeNumber_33 rfl ?_
    refine r_getP (a := 31) dX8_writeNumber_34 kf_RX8_9 (zlt hn rfl) sh_52 rfl (k0.1 _ _ _ (zlt hn rfl) p_52_0) ?_
    refine r_bipush dX8_writeNumber_37 rfl ?_
    refine r_iload_n dX8_writeNumber_39 rfl ?_
    refine r_bipush dX8_writeNumber_40 rfl ?_
    obtain ⟨h7, h8⟩ := h6
    refine r_idiv dX8_writeNumber_42 h7.1 h7.2 (by decide) (by decide) ?_
    refine r_bipush dX8_writeNumber_43 rfl ?_
    obtain ⟨h9, h10⟩ := h8
    refine r_irem dX8_writeNumber_45 h9.1 h9.2 (by decide) (by decide) ?_
    refine r_iadd dX8_writeNumber_46 ?_
    refine n_callV (N := M_X1_addByte) (As := [iV (48 + (((absI x1) / 100) % 10))]) (st := []) dX8_writeNumber_47 mk_X1_addByte km_RX8_21 kd_X1_addByte rfl (zlt hn rfl) sh_31 (q := (RX1, TX1, 2)) rfl rfl (zFits_rm d n n n (Nat.le_refl n)) (Nat.le_of_ble_eq_true rfl) rfl k0 h10 ?_
    rintro _ σ12 k13 ⟨rfl, h15⟩
    change Zm _ _ _ _ _ _ 50 _ [] _
    exact r_mask [true, false, true] rfl (h15 h1 k13)
theorem b_X8_writeNumber_50 {X : ZX} {d n : Nat} {P : ZSto → Prop} {x2 : Int} {σ : ZSto} (hn : 73 ≤ n) 
    (h : (x2 < 10 → (0 ≤ x2 ∧ x2 < 2147483648) ∧ ZkV X M_X1_addByte d n [.ref (zB X + 31), iV (48 + (x2 % 10))] σ (fun σ7 => ZkV X M_X1_addByte d n [.ref (zB X + 31), iV 93] σ7 (fun σ12 => P σ12))) ∧ (¬ (x2 < 10) → (0 ≤ x2 ∧ x2 < 2147483648) ∧ (0 ≤ x2 / 10 ∧ x2 / 10 < 2147483648) ∧ ZkV X M_X1_addByte d n [.ref (zB X + 31), iV (48 + ((x2 / 10) % 10))] σ (fun σ22 => ZkV X M_X1_addByte d n [.ref (zB X + 31), iV (48 + (x2 % 10))] σ22 (fun σ27 => ZkV X M_X1_addByte d n [.ref (zB X + 31), iV 93] σ27 (fun σ32 => P σ32))))) :
    L_X8_writeNumber_50 X d n (zpV P) x2 σ := by
  intro hx2 k0
  unfold Zn
  refine r_iload_n dX8_writeNumber_50 rfl ?_
  refine r_bipush dX8_writeNumber_51 rfl ?_
  refine r_icmp_lt (t := 73) dX8_writeNumber_53 rfl hx2 (r32c rfl) (fun c1 => ?_) (fun c2 => ?_)
  · have h3 := h.1 c1
    refine r_aload_n dX8_writeNumber_73 rfl ?_
    refine r_getP (a := 31) dX8_writeNumber_74 kf_RX8_9 (zlt hn rfl) sh_52 rfl (k0.1 _ _ _ (zlt hn rfl) p_52_0) ?_
    refine r_bipush dX8_writeNumber_77 rfl ?_
    refine r_iload_n dX8_writeNumber_79 rfl ?_
    refine r_bipush dX8_writeNumber_80 rfl ?_
    obtain ⟨h4, h5⟩ := h3
    refine r_irem dX8_writeNumber_82 h4.1 h4.2 (by decide) (by decide) ?_
    refine r_iadd dX8_writeNumber_83 ?_
    refine n_callV (N := M_X1_addByte) (As := [iV (48 + (x2 % 10))]) (st := []) dX8_writeNumber_84 mk_X1_addByte km_RX8_21 kd_X1_addByte rfl (zlt hn rfl) sh_31 (q := (RX1, TX1, 2)) rfl rfl (zFits_rm d n n n (Nat.le_refl n)) (Nat.le_of_ble_eq_true rfl) rfl k0 h5 ?_
    rintro _ σ7 k8 ⟨rfl, h10⟩
    change Zm _ _ _ _ _ _ 87 _ [] _
    refine r_aload_n dX8_writeNumber_87 rfl ?_
    refine r_getP (a := 31) dX8_writeNumber_88 kf_RX8_9 (zlt hn rfl) sh_52 rfl (k8.1 _ _ _ (zlt hn rfl) p_52_0) ?_
    refine r_bipush dX8_writeNumber_91 rfl ?_
    refine n_callV (N := M_X1_addByte) (As := [iV 93]) (st := []) dX8_writeNumber_93 mk_X1_addByte km_RX8_21 kd_X1_addByte rfl (zlt hn rfl) sh_31 (q := (RX1, TX1, 2)) rfl rfl (zFits_rm d n n n (Nat.le_refl n)) (Nat.le_of_ble_eq_true rfl) rfl k8 h10 ?_
    rintro _ σ12 k13 ⟨rfl, h15⟩
    change Zm _ _ _ _ _ _ 96 _ [] _
    exact r_return dX8_writeNumber_96 rfl ⟨k13, rfl, h15⟩
  · have h16 := h.2 c2
    refine r_aload_n dX8_writeNumber_56 rfl ?_
    refine r_getP (a := 31) dX8_writeNumber_57 kf_RX8_9 (zlt hn rfl) sh_52 rfl (k0.1 _ _ _ (zlt hn rfl) p_52_0) ?_
    refine r_bipush dX8_writeNumber_60 rfl ?_
    refine r_iload_n dX8_writeNumber_62 rfl ?_
    refine r_bipush dX8_writeNumber_63 rfl ?_
    obtain ⟨h17, h18⟩ := h16
    refine r_idiv dX8_writeNumber_65 h17.1 h17.2 (by decide) (by decide) ?_
    refine r_bipush dX8_writeNumber_66 rfl ?_
    obtain ⟨h19, h20⟩ := h18
    refine r_irem dX8_writeNumber_68 h19.1 h19.2 (by decide) (by decide) ?_
    refine r_iadd dX8_writeNumber_69 ?_
    refine n_callV (N := M_X1_addByte) (As := [iV (48 + ((x2 / 10) % 10))]) (st := []) dX8_writeNumber_70 mk_X1_addByte km_RX8_21 kd_X1_addByte rfl (zlt hn rfl) sh_31 (q := (RX1, TX1, 2)) rfl rfl (zFits_rm d n n n (Nat.le_refl n)) (Nat.le_of_ble_eq_true rfl) rfl k0 h20 ?_
    rintro _ σ22 k23 ⟨rfl, h25⟩
    change Zm _ _ _ _ _ _ 73 _ [] _
    refine r_aload_n dX8_writeNumber_73 rfl ?_
    refine r_getP (a := 31) dX8_writeNumber_74 kf_RX8_9 (zlt hn rfl) sh_52 rfl (k23.1 _ _ _ (zlt hn rfl) p_52_0) ?_
    refine r_bipush dX8_writeNumber_77 rfl ?_
    refine r_iload_n dX8_writeNumber_79 rfl ?_
    refine r_bipush dX8_writeNumber_80 rfl ?_
    refine r_irem dX8_writeNumber_82 h17.1 h17.2 (by decide) (by decide) ?_
    refine r_iadd dX8_writeNumber_83 ?_
    refine n_callV (N := M_X1_addByte) (As := [iV (48 + (x2 % 10))]) (st := []) dX8_writeNumber_84 mk_X1_addByte km_RX8_21 kd_X1_addByte rfl (zlt hn rfl) sh_31 (q := (RX1, TX1, 2)) rfl rfl (zFits_rm d n n n (Nat.le_refl n)) (Nat.le_of_ble_eq_true rfl) rfl k23 h25 ?_
    rintro _ σ27 k28 ⟨rfl, h30⟩
    change Zm _ _ _ _ _ _ 87 _ [] _
    refine r_aload_n dX8_writeNumber_87 rfl ?_
    refine r_getP (a := 31) dX8_writeNumber_88 kf_RX8_9 (zlt hn rfl) sh_52 rfl (k28.1 _ _ _ (zlt hn rfl) p_52_0) ?_
    refine r_bipush dX8_writeNumber_91 rfl ?_
    refine n_callV (N := M_X1_addByte) (As := [iV 93]) (st := []) dX8_writeNumber_93 mk_X1_addByte km_RX8_21 kd_X1_addByte rfl (zlt hn rfl) sh_31 (q := (RX1, TX1, 2)) rfl rfl (zFits_rm d n n n (Nat.le_refl n)) (Nat.le_of_ble_eq_true rfl) rfl k28 h30 ?_
    rintro _ σ32 k33 ⟨rfl, h35⟩
    change Zm _ _ _ _ _ _ 96 _ [] _
    exact r_return dX8_writeNumber_96 rfl ⟨k33, rfl, h35⟩
/-! StoneRoom$Writer.writeSetting -/
theorem dX8_writeSetting_0 : decode M_X8_writeSetting.2.1 0 = .ok (.iconst 0, 1) := by decide +kernel
theorem dX8_writeSetting_1 : decode M_X8_writeSetting.2.1 1 = .ok (.istore 5, 2) := by decide +kernel
theorem dX8_writeSetting_3 : decode M_X8_writeSetting.2.1 3 = .ok (.iconst 0, 1) := by decide +kernel
theorem dX8_writeSetting_4 : decode M_X8_writeSetting.2.1 4 = .ok (.istore 6, 2) := by decide +kernel
theorem dX8_writeSetting_6 : decode M_X8_writeSetting.2.1 6 = .ok (.iload 6, 2) := by decide +kernel
theorem dX8_writeSetting_8 : decode M_X8_writeSetting.2.1 8 = .ok (.aload_n 1, 1) := by decide +kernel
theorem dX8_writeSetting_9 : decode M_X8_writeSetting.2.1 9 = .ok (.getfield 88, 3) := by decide +kernel
theorem dX8_writeSetting_12 : decode M_X8_writeSetting.2.1 12 = .ok (.aload_n 1, 1) := by decide +kernel
theorem dX8_writeSetting_13 : decode M_X8_writeSetting.2.1 13 = .ok (.getfield 88, 3) := by decide +kernel
theorem dX8_writeSetting_16 : decode M_X8_writeSetting.2.1 16 = .ok (.imul, 1) := by decide +kernel
theorem dX8_writeSetting_17 : decode M_X8_writeSetting.2.1 17 = .ok (.if_icmp .ge 49, 3) := by decide +kernel
theorem dX8_writeSetting_20 : decode M_X8_writeSetting.2.1 20 = .ok (.aload_n 1, 1) := by decide +kernel
theorem dX8_writeSetting_21 : decode M_X8_writeSetting.2.1 21 = .ok (.getfield 104, 3) := by decide +kernel
theorem dX8_writeSetting_24 : decode M_X8_writeSetting.2.1 24 = .ok (.iload_n 2, 1) := by decide +kernel
theorem dX8_writeSetting_25 : decode M_X8_writeSetting.2.1 25 = .ok (.iconst 3, 1) := by decide +kernel
theorem dX8_writeSetting_26 : decode M_X8_writeSetting.2.1 26 = .ok (.imul, 1) := by decide +kernel
theorem dX8_writeSetting_27 : decode M_X8_writeSetting.2.1 27 = .ok (.iload 6, 2) := by decide +kernel
theorem dX8_writeSetting_29 : decode M_X8_writeSetting.2.1 29 = .ok (.invokestatic 108, 3) := by decide +kernel
theorem dX8_writeSetting_32 : decode M_X8_writeSetting.2.1 32 = .ok (.iload_n 3, 1) := by decide +kernel
theorem dX8_writeSetting_33 : decode M_X8_writeSetting.2.1 33 = .ok (.if_icmp .ne 27, 3) := by decide +kernel
theorem dX8_writeSetting_36 : decode M_X8_writeSetting.2.1 36 = .ok (.iload 5, 2) := by decide +kernel
theorem dX8_writeSetting_38 : decode M_X8_writeSetting.2.1 38 = .ok (.ifCond .ne 15, 3) := by decide +kernel
theorem dX8_writeSetting_41 : decode M_X8_writeSetting.2.1 41 = .ok (.aload_n 0, 1) := by decide +kernel
theorem dX8_writeSetting_42 : decode M_X8_writeSetting.2.1 42 = .ok (.getfield 9, 3) := by decide +kernel
theorem dX8_writeSetting_45 : decode M_X8_writeSetting.2.1 45 = .ok (.aload 4, 2) := by decide +kernel
theorem dX8_writeSetting_47 : decode M_X8_writeSetting.2.1 47 = .ok (.invokevirtual 84, 3) := by decide +kernel
theorem dX8_writeSetting_50 : decode M_X8_writeSetting.2.1 50 = .ok (.iconst 1, 1) := by decide +kernel
theorem dX8_writeSetting_51 : decode M_X8_writeSetting.2.1 51 = .ok (.istore 5, 2) := by decide +kernel
theorem dX8_writeSetting_53 : decode M_X8_writeSetting.2.1 53 = .ok (.aload_n 0, 1) := by decide +kernel
theorem dX8_writeSetting_54 : decode M_X8_writeSetting.2.1 54 = .ok (.aload_n 1, 1) := by decide +kernel
theorem dX8_writeSetting_55 : decode M_X8_writeSetting.2.1 55 = .ok (.iload 6, 2) := by decide +kernel
theorem dX8_writeSetting_57 : decode M_X8_writeSetting.2.1 57 = .ok (.invokevirtual 79, 3) := by decide +kernel
theorem dX8_writeSetting_60 : decode M_X8_writeSetting.2.1 60 = .ok (.iinc 6 1, 3) := by decide +kernel
theorem dX8_writeSetting_63 : decode M_X8_writeSetting.2.1 63 = .ok (.goto (-57), 3) := by decide +kernel
theorem dX8_writeSetting_66 : decode M_X8_writeSetting.2.1 66 = .ok (.return_, 1) := by decide +kernel
def L_X8_writeSetting_6 (X : ZX) (d n : Nat) (P : Option Value → ZSto → Prop) (o1 : Nat) (x2 : Int) (x3 : Int) (s4 : Nat) (x5 : Int) (x6 : Int) (σ : ZSto) : Prop := R32 x2 → R32 x3 → R32 x5 → R32 x6 → ZOk n σ → Zn X M_X8_writeSetting d n P 6 [some (.ref (zB X + 52)), some (.ref (zB X + o1)), some (iV x2), some (iV x3), some (.ref s4), some (iV x5), some (iV x6)] [] σ
theorem w_X8_writeSetting {X : ZX} {d n : Nat} {P : ZSto → Prop} {o1 : Nat} {x2 : Int} {x3 : Int} {s4 : Nat} {σ : ZSto} (hn : 73 ≤ n) (hc1 : zIsT o1) (hx2 : R32 x2) (hx3 : R32 x3)
    (h : L_X8_writeSetting_6 X d n (zpV P) o1 x2 x3 s4 0 0 σ) :
    ZkV X M_X8_writeSetting (d + 1) n [.ref (zB X + 52), .ref (zB X + o1), iV x2, iV x3, .ref s4] σ P := by
  refine zk_of (ls := [some (.ref (zB X + 52)), some (.ref (zB X + o1)), some (iV x2), some (iV x3), some (.ref s4), none, none]) pl_RX8 (Nat.le_of_ble_eq_true rfl) rfl (fun k0 => ?_)
  unfold Zn
  refine r_iconst dX8_writeSetting_0 ?_
  refine r_istore dX8_writeSetting_1 rfl rfl ?_
  refine r_iconst dX8_writeSetting_3 ?_
  refine r_istore dX8_writeSetting_4 rfl rfl ?_
  exact r_mask [true, true, true, true, true, true, true] rfl (h hx2 hx3 (r32c rfl) (r32c rfl) k0)
theorem b_X8_writeSetting_6 {X : ZX} {d n : Nat} {P : ZSto → Prop} {o1 : Nat} {x2 : Int} {x3 : Int} {s4 : Nat} {x5 : Int} {x6 : Int} {σ : ZSto} (hn : 73 ≤ n) (hc1 : zIsT o1)
    (h : R32 ((gI σ o1 13) * (gI σ o1 13)) ∧ ((gI σ o1 13) * (gI σ o1 13) ≤ x6 → P σ) ∧ (¬ ((gI σ o1 13) * (gI σ o1 13) ≤ x6) → ZkI X M_X9_pairAt d n [.ref (zB X + (o1 + 13)), iV (x2 * 3), iV x6] σ (fun v7 σ8 => (¬ v7 = x3 → R32 (x6 + 1) ∧ L_X8_writeSetting_6 X d n (zpV P) o1 x2 x3 s4 x5 (x6 + 1) σ8) ∧ (v7 = x3 → (¬ x5 = 0 → ZkV X M_X8_writePoint d n [.ref (zB X + 52), .ref (zB X + o1), iV x6] σ8 (fun σ22 => R32 (x6 + 1) ∧ L_X8_writeSetting_6 X d n (zpV P) o1 x2 x3 s4 x5 (x6 + 1) σ22)) ∧ (x5 = 0 → ZkV X M_X1_addText d n [.ref (zB X + 31), .ref s4] σ8 (fun σ30 => ZkV X M_X8_writePoint d n [.ref (zB X + 52), .ref (zB X + o1), iV x6] σ30 (fun σ35 => R32 (x6 + 1) ∧ L_X8_writeSetting_6 X d n (zpV P) o1 x2 x3 s4 1 (x6 + 1) σ35))))))) :
    L_X8_writeSetting_6 X d n (zpV P) o1 x2 x3 s4 x5 x6 σ := by
  intro hx2 hx3 hx5 hx6 k0
  unfold Zn
  refine r_iload dX8_writeSetting_6 rfl ?_
  refine r_aload_n dX8_writeSetting_8 rfl ?_
  refine r_getI dX8_writeSetting_9 kf_RX8_88 (zT_lt hc1 hn) (zT_s hc1) (Or.inl rfl) rfl ?_
  refine r_aload_n dX8_writeSetting_12 rfl ?_
  refine r_getI dX8_writeSetting_13 kf_RX8_88 (zT_lt hc1 hn) (zT_s hc1) (Or.inl rfl) rfl ?_
  refine r_imul dX8_writeSetting_16 ?_
  obtain ⟨h1, h2⟩ := h
  refine r_icmp_ge (t := 66) dX8_writeSetting_17 rfl hx6 h1 (fun c3 => ?_) (fun c4 => ?_)
  · have h5 := h2.1 c3
    exact r_return dX8_writeSetting_66 rfl ⟨k0, rfl, h5⟩
  · have h6 := h2.2 c4
    refine r_aload_n dX8_writeSetting_20 rfl ?_
    refine r_getP (a := (o1 + 13)) dX8_writeSetting_21 kf_RX8_104 (zT_lt hc1 hn) (zT_s hc1) rfl (k0.1 _ _ _ (zT_lt hc1 hn) (zT_p12 hc1)) ?_
    refine r_iload_n dX8_writeSetting_24 rfl ?_
    refine r_iconst dX8_writeSetting_25 ?_
    refine r_imul dX8_writeSetting_26 ?_
    refine r_iload dX8_writeSetting_27 rfl ?_
    refine n_callS (N := M_X9_pairAt) (As := [.ref (zB X + (o1 + 13)), iV (x2 * 3), iV x6]) (st := []) dX8_writeSetting_29 mk_X9_pairAt km_RX8_108 kd_X9_pairAt rfl (zFits_rm d n n n (Nat.le_refl n)) (Nat.le_of_ble_eq_true rfl) rfl k0 h6 ?_
    rintro _ σ8 k9 ⟨v7, rfl, h10, h11⟩
    change Zm _ _ _ _ _ _ 32 _ [iV v7] _
    refine r_iload_n dX8_writeSetting_32 rfl ?_
    refine r_icmp_ne (t := 60) dX8_writeSetting_33 rfl h10 hx3 (fun c12 => ?_) (fun c13 => ?_)
    · have h14 := h11.1 c12
      refine r_iinc dX8_writeSetting_60 rfl rfl rfl ?_
      refine r_goto (t := 6) dX8_writeSetting_63 rfl ?_
      obtain ⟨h15, h16⟩ := h14
      exact r_mask [true, true, true, true, true, true, true] rfl (h16 hx2 hx3 hx5 h15 k9)
    · have h17 := h11.2 c13
      refine r_iload dX8_writeSetting_36 rfl ?_
      refine r_if_ne (t := 53) dX8_writeSetting_38 rfl hx5  (fun c18 => ?_) (fun c19 => ?_)
      · have h20 := h17.1 c18
        refine r_aload_n dX8_writeSetting_53 rfl ?_
        refine r_aload_n dX8_writeSetting_54 rfl ?_
        refine r_iload dX8_writeSetting_55 rfl ?_
        refine n_callV (N := M_X8_writePoint) (As := [.ref (zB X + o1), iV x6]) (st := []) dX8_writeSetting_57 mk_X8_writePoint km_RX8_79 kd_X8_writePoint rfl (zlt hn rfl) sh_52 (q := (RX8, TX8, 1)) rfl rfl (zFits_rm d n n n (Nat.le_refl n)) (Nat.le_of_ble_eq_true rfl) rfl k9 h20 ?_
        rintro _ σ22 k23 ⟨rfl, h25⟩
        change Zm _ _ _ _ _ _ 60 _ [] _
        refine r_iinc dX8_writeSetting_60 rfl rfl rfl ?_
        refine r_goto (t := 6) dX8_writeSetting_63 rfl ?_
        obtain ⟨h26, h27⟩ := h25
        exact r_mask [true, true, true, true, true, true, true] rfl (h27 hx2 hx3 hx5 h26 k23)
      · have h28 := h17.2 c19
        refine r_aload_n dX8_writeSetting_41 rfl ?_
        refine r_getP (a := 31) dX8_writeSetting_42 kf_RX8_9 (zlt hn rfl) sh_52 rfl (k9.1 _ _ _ (zlt hn rfl) p_52_0) ?_
        refine r_aload dX8_writeSetting_45 rfl ?_
        refine n_callV (N := M_X1_addText) (As := [.ref s4]) (st := []) dX8_writeSetting_47 mk_X1_addText km_RX8_84 kd_X1_addText rfl (zlt hn rfl) sh_31 (q := (RX1, TX1, 2)) rfl rfl (zFits_rm d n n n (Nat.le_refl n)) (Nat.le_of_ble_eq_true rfl) rfl k9 h28 ?_
        rintro _ σ30 k31 ⟨rfl, h33⟩
        change Zm _ _ _ _ _ _ 50 _ [] _
        refine r_iconst dX8_writeSetting_50 ?_
        refine r_istore dX8_writeSetting_51 rfl rfl ?_
        refine r_aload_n dX8_writeSetting_53 rfl ?_
        refine r_aload_n dX8_writeSetting_54 rfl ?_
        refine r_iload dX8_writeSetting_55 rfl ?_
        refine n_callV (N := M_X8_writePoint) (As := [.ref (zB X + o1), iV x6]) (st := []) dX8_writeSetting_57 mk_X8_writePoint km_RX8_79 kd_X8_writePoint rfl (zlt hn rfl) sh_52 (q := (RX8, TX8, 1)) rfl rfl (zFits_rm d n n n (Nat.le_refl n)) (Nat.le_of_ble_eq_true rfl) rfl k31 h33 ?_
        rintro _ σ35 k36 ⟨rfl, h38⟩
        change Zm _ _ _ _ _ _ 60 _ [] _
        refine r_iinc dX8_writeSetting_60 rfl rfl rfl ?_
        refine r_goto (t := 6) dX8_writeSetting_63 rfl ?_
        obtain ⟨h39, h40⟩ := h38
        exact r_mask [true, true, true, true, true, true, true] rfl (h40 hx2 hx3 (r32c rfl) h39 k36)
/-! StoneRoom$Writer.writePoint -/
theorem dX8_writePoint_0 : decode M_X8_writePoint.2.1 0 = .ok (.aload_n 0, 1) := by decide +kernel
theorem dX8_writePoint_1 : decode M_X8_writePoint.2.1 1 = .ok (.getfield 9, 3) := by decide +kernel
theorem dX8_writePoint_4 : decode M_X8_writePoint.2.1 4 = .ok (.bipush 91, 2) := by decide +kernel
theorem dX8_writePoint_6 : decode M_X8_writePoint.2.1 6 = .ok (.invokevirtual 21, 3) := by decide +kernel
theorem dX8_writePoint_9 : decode M_X8_writePoint.2.1 9 = .ok (.iload_n 2, 1) := by decide +kernel
theorem dX8_writePoint_10 : decode M_X8_writePoint.2.1 10 = .ok (.iconst (-1), 1) := by decide +kernel
theorem dX8_writePoint_11 : decode M_X8_writePoint.2.1 11 = .ok (.if_icmp .eq 42, 3) := by decide +kernel
theorem dX8_writePoint_14 : decode M_X8_writePoint.2.1 14 = .ok (.aload_n 1, 1) := by decide +kernel
theorem dX8_writePoint_15 : decode M_X8_writePoint.2.1 15 = .ok (.getfield 88, 3) := by decide +kernel
theorem dX8_writePoint_18 : decode M_X8_writePoint.2.1 18 = .ok (.ifCond .le 35, 3) := by decide +kernel
theorem dX8_writePoint_21 : decode M_X8_writePoint.2.1 21 = .ok (.aload_n 0, 1) := by decide +kernel
theorem dX8_writePoint_22 : decode M_X8_writePoint.2.1 22 = .ok (.getfield 9, 3) := by decide +kernel
theorem dX8_writePoint_25 : decode M_X8_writePoint.2.1 25 = .ok (.bipush 97, 2) := by decide +kernel
theorem dX8_writePoint_27 : decode M_X8_writePoint.2.1 27 = .ok (.iload_n 2, 1) := by decide +kernel
theorem dX8_writePoint_28 : decode M_X8_writePoint.2.1 28 = .ok (.aload_n 1, 1) := by decide +kernel
theorem dX8_writePoint_29 : decode M_X8_writePoint.2.1 29 = .ok (.getfield 88, 3) := by decide +kernel
theorem dX8_writePoint_32 : decode M_X8_writePoint.2.1 32 = .ok (.irem, 1) := by decide +kernel
theorem dX8_writePoint_33 : decode M_X8_writePoint.2.1 33 = .ok (.iadd, 1) := by decide +kernel
theorem dX8_writePoint_34 : decode M_X8_writePoint.2.1 34 = .ok (.invokevirtual 21, 3) := by decide +kernel
theorem dX8_writePoint_37 : decode M_X8_writePoint.2.1 37 = .ok (.aload_n 0, 1) := by decide +kernel
theorem dX8_writePoint_38 : decode M_X8_writePoint.2.1 38 = .ok (.getfield 9, 3) := by decide +kernel
theorem dX8_writePoint_41 : decode M_X8_writePoint.2.1 41 = .ok (.bipush 97, 2) := by decide +kernel
theorem dX8_writePoint_43 : decode M_X8_writePoint.2.1 43 = .ok (.iload_n 2, 1) := by decide +kernel
theorem dX8_writePoint_44 : decode M_X8_writePoint.2.1 44 = .ok (.aload_n 1, 1) := by decide +kernel
theorem dX8_writePoint_45 : decode M_X8_writePoint.2.1 45 = .ok (.getfield 88, 3) := by decide +kernel
theorem dX8_writePoint_48 : decode M_X8_writePoint.2.1 48 = .ok (.idiv, 1) := by decide +kernel
theorem dX8_writePoint_49 : decode M_X8_writePoint.2.1 49 = .ok (.iadd, 1) := by decide +kernel
theorem dX8_writePoint_50 : decode M_X8_writePoint.2.1 50 = .ok (.invokevirtual 21, 3) := by decide +kernel
theorem dX8_writePoint_53 : decode M_X8_writePoint.2.1 53 = .ok (.aload_n 0, 1) := by decide +kernel
theorem dX8_writePoint_54 : decode M_X8_writePoint.2.1 54 = .ok (.getfield 9, 3) := by decide +kernel
theorem dX8_writePoint_57 : decode M_X8_writePoint.2.1 57 = .ok (.bipush 93, 2) := by decide +kernel
theorem dX8_writePoint_59 : decode M_X8_writePoint.2.1 59 = .ok (.invokevirtual 21, 3) := by decide +kernel
theorem dX8_writePoint_62 : decode M_X8_writePoint.2.1 62 = .ok (.return_, 1) := by decide +kernel
theorem w_X8_writePoint {X : ZX} {d n : Nat} {P : ZSto → Prop} {o1 : Nat} {x2 : Int} {σ : ZSto} (hn : 73 ≤ n) (hc1 : zIsT o1) (hx2 : R32 x2)
    (h : ZkV X M_X1_addByte d n [.ref (zB X + 31), iV 91] σ (fun σ2 => (x2 = (-1) → ZkV X M_X1_addByte d n [.ref (zB X + 31), iV 93] σ2 (fun σ10 => P σ10)) ∧ (¬ (x2 = (-1)) → (gI σ2 o1 13 ≤ 0 → ZkV X M_X1_addByte d n [.ref (zB X + 31), iV 93] σ2 (fun σ19 => P σ19)) ∧ (¬ (gI σ2 o1 13 ≤ 0) → (0 < gI σ2 o1 13 ∧ gI σ2 o1 13 < 2147483648) ∧ (0 ≤ x2 ∧ x2 < 2147483648) ∧ ZkV X M_X1_addByte d n [.ref (zB X + 31), iV (97 + (x2 % (gI σ2 o1 13)))] σ2 (fun σ29 => (0 < gI σ29 o1 13 ∧ gI σ29 o1 13 < 2147483648) ∧ ZkV X M_X1_addByte d n [.ref (zB X + 31), iV (97 + (x2 / (gI σ29 o1 13)))] σ29 (fun σ36 => ZkV X M_X1_addByte d n [.ref (zB X + 31), iV 93] σ36 (fun σ41 => P σ41))))))) :
    ZkV X M_X8_writePoint (d + 1) n [.ref (zB X + 52), .ref (zB X + o1), iV x2] σ P := by
  refine zk_of (ls := [some (.ref (zB X + 52)), some (.ref (zB X + o1)), some (iV x2)]) pl_RX8 (Nat.le_of_ble_eq_true rfl) rfl (fun k0 => ?_)
  unfold Zn
  refine r_aload_n dX8_writePoint_0 rfl ?_
  refine r_getP (a := 31) dX8_writePoint_1 kf_RX8_9 (zlt hn rfl) sh_52 rfl (k0.1 _ _ _ (zlt hn rfl) p_52_0) ?_
  refine r_bipush dX8_writePoint_4 rfl ?_
  refine n_callV (N := M_X1_addByte) (As := [iV 91]) (st := []) dX8_writePoint_6 mk_X1_addByte km_RX8_21 kd_X1_addByte rfl (zlt hn rfl) sh_31 (q := (RX1, TX1, 2)) rfl rfl (zFits_rm d n n n (Nat.le_refl n)) (Nat.le_of_ble_eq_true rfl) rfl k0 h ?_
  rintro _ σ2 k3 ⟨rfl, h5⟩
  change Zm _ _ _ _ _ _ 9 _ [] _
  refine r_iload_n dX8_writePoint_9 rfl ?_
  refine r_iconst dX8_writePoint_10 ?_
  refine r_icmp_eq (t := 53) dX8_writePoint_11 rfl hx2 (r32c rfl) (fun c6 => ?_) (fun c7 => ?_)
  · have h8 := h5.1 c6
    refine r_aload_n dX8_writePoint_53 rfl ?_
    refine r_getP (a := 31) dX8_writePoint_54 kf_RX8_9 (zlt hn rfl) sh_52 rfl (k3.1 _ _ _ (zlt hn rfl) p_52_0) ?_
    refine r_bipush dX8_writePoint_57 rfl ?_
    refine n_callV (N := M_X1_addByte) (As := [iV 93]) (st := []) dX8_writePoint_59 mk_X1_addByte km_RX8_21 kd_X1_addByte rfl (zlt hn rfl) sh_31 (q := (RX1, TX1, 2)) rfl rfl (zFits_rm d n n n (Nat.le_refl n)) (Nat.le_of_ble_eq_true rfl) rfl k3 h8 ?_
    rintro _ σ10 k11 ⟨rfl, h13⟩
    change Zm _ _ _ _ _ _ 62 _ [] _
    exact r_return dX8_writePoint_62 rfl ⟨k11, rfl, h13⟩
  · have h14 := h5.2 c7
    refine r_aload_n dX8_writePoint_14 rfl ?_
    refine r_getI dX8_writePoint_15 kf_RX8_88 (zT_lt hc1 hn) (zT_s hc1) (Or.inl rfl) rfl ?_
    refine r_if_le (t := 53) dX8_writePoint_18 rfl (k3.2.1 _ _)  (fun c15 => ?_) (fun c16 => ?_)
    · have h17 := h14.1 c15
      refine r_aload_n dX8_writePoint_53 rfl ?_
      refine r_getP (a := 31) dX8_writePoint_54 kf_RX8_9 (zlt hn rfl) sh_52 rfl (k3.1 _ _ _ (zlt hn rfl) p_52_0) ?_
      refine r_bipush dX8_writePoint_57 rfl ?_
      refine n_callV (N := M_X1_addByte) (As := [iV 93]) (st := []) dX8_writePoint_59 mk_X1_addByte km_RX8_21 kd_X1_addByte rfl (zlt hn rfl) sh_31 (q := (RX1, TX1, 2)) rfl rfl (zFits_rm d n n n (Nat.le_refl n)) (Nat.le_of_ble_eq_true rfl) rfl k3 h17 ?_
      rintro _ σ19 k20 ⟨rfl, h22⟩
      change Zm _ _ _ _ _ _ 62 _ [] _
      exact r_return dX8_writePoint_62 rfl ⟨k20, rfl, h22⟩
    · have h23 := h14.2 c16
      refine r_aload_n dX8_writePoint_21 rfl ?_
      refine r_getP (a := 31) dX8_writePoint_22 kf_RX8_9 (zlt hn rfl) sh_52 rfl (k3.1 _ _ _ (zlt hn rfl) p_52_0) ?_
      refine r_bipush dX8_writePoint_25 rfl ?_
      refine r_iload_n dX8_writePoint_27 rfl ?_
      refine r_aload_n dX8_writePoint_28 rfl ?_
      refine r_getI dX8_writePoint_29 kf_RX8_88 (zT_lt hc1 hn) (zT_s hc1) (Or.inl rfl) rfl ?_
      obtain ⟨h24, h25⟩ := h23
      obtain ⟨h26, h27⟩ := h25
      refine r_irem dX8_writePoint_32 h26.1 h26.2 h24.1 h24.2 ?_
      refine r_iadd dX8_writePoint_33 ?_
      refine n_callV (N := M_X1_addByte) (As := [iV (97 + (x2 % (gI σ2 o1 13)))]) (st := []) dX8_writePoint_34 mk_X1_addByte km_RX8_21 kd_X1_addByte rfl (zlt hn rfl) sh_31 (q := (RX1, TX1, 2)) rfl rfl (zFits_rm d n n n (Nat.le_refl n)) (Nat.le_of_ble_eq_true rfl) rfl k3 h27 ?_
      rintro _ σ29 k30 ⟨rfl, h32⟩
      change Zm _ _ _ _ _ _ 37 _ [] _
      refine r_aload_n dX8_writePoint_37 rfl ?_
      refine r_getP (a := 31) dX8_writePoint_38 kf_RX8_9 (zlt hn rfl) sh_52 rfl (k30.1 _ _ _ (zlt hn rfl) p_52_0) ?_
      refine r_bipush dX8_writePoint_41 rfl ?_
      refine r_iload_n dX8_writePoint_43 rfl ?_
      refine r_aload_n dX8_writePoint_44 rfl ?_
      refine r_getI dX8_writePoint_45 kf_RX8_88 (zT_lt hc1 hn) (zT_s hc1) (Or.inl rfl) rfl ?_
      obtain ⟨h33, h34⟩ := h32
      refine r_idiv dX8_writePoint_48 h26.1 h26.2 h33.1 h33.2 ?_
      refine r_iadd dX8_writePoint_49 ?_
      refine n_callV (N := M_X1_addByte) (As := [iV (97 + (x2 / (gI σ29 o1 13)))]) (st := []) dX8_writePoint_50 mk_X1_addByte km_RX8_21 kd_X1_addByte rfl (zlt hn rfl) sh_31 (q := (RX1, TX1, 2)) rfl rfl (zFits_rm d n n n (Nat.le_refl n)) (Nat.le_of_ble_eq_true rfl) rfl k30 h34 ?_
      rintro _ σ36 k37 ⟨rfl, h39⟩
      change Zm _ _ _ _ _ _ 53 _ [] _
      refine r_aload_n dX8_writePoint_53 rfl ?_
      refine r_getP (a := 31) dX8_writePoint_54 kf_RX8_9 (zlt hn rfl) sh_52 rfl (k37.1 _ _ _ (zlt hn rfl) p_52_0) ?_
      refine r_bipush dX8_writePoint_57 rfl ?_
      refine n_callV (N := M_X1_addByte) (As := [iV 93]) (st := []) dX8_writePoint_59 mk_X1_addByte km_RX8_21 kd_X1_addByte rfl (zlt hn rfl) sh_31 (q := (RX1, TX1, 2)) rfl rfl (zFits_rm d n n n (Nat.le_refl n)) (Nat.le_of_ble_eq_true rfl) rfl k37 h39 ?_
      rintro _ σ41 k42 ⟨rfl, h44⟩
      change Zm _ _ _ _ _ _ 62 _ [] _
      exact r_return dX8_writePoint_62 rfl ⟨k42, rfl, h44⟩
