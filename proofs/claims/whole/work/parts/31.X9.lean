/-! StoneRoom.begin -/
theorem dX9_begin_0 : decode M_X9_begin.2.1 0 = .ok (.iload_n 1, 1) := by decide +kernel
theorem dX9_begin_1 : decode M_X9_begin.2.1 1 = .ok (.invokestatic 102, 3) := by decide +kernel
theorem dX9_begin_4 : decode M_X9_begin.2.1 4 = .ok (.ifCond .eq 10, 3) := by decide +kernel
theorem dX9_begin_7 : decode M_X9_begin.2.1 7 = .ok (.iload_n 2, 1) := by decide +kernel
theorem dX9_begin_8 : decode M_X9_begin.2.1 8 = .ok (.invokestatic 106, 3) := by decide +kernel
theorem dX9_begin_11 : decode M_X9_begin.2.1 11 = .ok (.ifCond .ne 5, 3) := by decide +kernel
theorem dX9_begin_14 : decode M_X9_begin.2.1 14 = .ok (.iconst 0, 1) := by decide +kernel
theorem dX9_begin_15 : decode M_X9_begin.2.1 15 = .ok (.ireturn, 1) := by decide +kernel
theorem dX9_begin_16 : decode M_X9_begin.2.1 16 = .ok (.aload_n 0, 1) := by decide +kernel
theorem dX9_begin_17 : decode M_X9_begin.2.1 17 = .ok (.iload_n 1, 1) := by decide +kernel
theorem dX9_begin_18 : decode M_X9_begin.2.1 18 = .ok (.iload_n 2, 1) := by decide +kernel
theorem dX9_begin_19 : decode M_X9_begin.2.1 19 = .ok (.invokevirtual 98, 3) := by decide +kernel
theorem dX9_begin_22 : decode M_X9_begin.2.1 22 = .ok (.iconst 1, 1) := by decide +kernel
theorem dX9_begin_23 : decode M_X9_begin.2.1 23 = .ok (.ireturn, 1) := by decide +kernel
theorem w_X9_begin {X : ZX} {d n : Nat} {P : Int → ZSto → Prop} {x1 : Int} {x2 : Int} {σ : ZSto} (hn : 73 ≤ n)  (hx1 : R32 x1) (hx2 : R32 x2)
    (h : ZkZ X M_X9_isSize d n [iV x1] σ (fun v1 σ2 => (v1 = 0 → P 0 σ2) ∧ (¬ (v1 = 0) → ZkZ X M_X9_isKomi d n [iV x2] σ2 (fun v10 σ11 => (¬ v10 = 0 → ZkV X M_X9_startGame d n [.ref (zB X + 0), iV x1, iV x2] σ11 (fun σ19 => P 1 σ19)) ∧ (v10 = 0 → P 0 σ11))))) :
    ZkZ X M_X9_begin (d + 1) n [.ref (zB X + 0), iV x1, iV x2] σ P := by
  refine zk_of (ls := [some (.ref (zB X + 0)), some (iV x1), some (iV x2)]) pl_RX9 (Nat.le_of_ble_eq_true rfl) rfl (fun k0 => ?_)
  unfold Zn
  refine r_iload_n dX9_begin_0 rfl ?_
  refine n_callS (N := M_X9_isSize) (As := [iV x1]) (st := []) dX9_begin_1 mk_X9_isSize km_RX9_102 kd_X9_isSize rfl (zFits_rm d n n n (Nat.le_refl n)) (Nat.le_of_ble_eq_true rfl) rfl k0 h ?_
  rintro _ σ2 k3 ⟨v1, rfl, h4, h5⟩
  change Zm _ _ _ _ _ _ 4 _ [iV v1] _
  refine r_if_eq (t := 14) dX9_begin_4 rfl (r32_z h4)  (fun c6 => ?_) (fun c7 => ?_)
  · have h8 := h5.1 c6
    refine r_iconst dX9_begin_14 ?_
    exact r_zreturn dX9_begin_15 rfl (Or.inl rfl) ⟨k3, _, rfl, (Or.inl rfl), h8⟩
  · have h9 := h5.2 c7
    refine r_iload_n dX9_begin_7 rfl ?_
    refine n_callS (N := M_X9_isKomi) (As := [iV x2]) (st := []) dX9_begin_8 mk_X9_isKomi km_RX9_106 kd_X9_isKomi rfl (zFits_rm d n n n (Nat.le_refl n)) (Nat.le_of_ble_eq_true rfl) rfl k3 h9 ?_
    rintro _ σ11 k12 ⟨v10, rfl, h13, h14⟩
    change Zm _ _ _ _ _ _ 11 _ [iV v10] _
    refine r_if_ne (t := 16) dX9_begin_11 rfl (r32_z h13)  (fun c15 => ?_) (fun c16 => ?_)
    · have h17 := h14.1 c15
      refine r_aload_n dX9_begin_16 rfl ?_
      refine r_iload_n dX9_begin_17 rfl ?_
      refine r_iload_n dX9_begin_18 rfl ?_
      refine n_callV (N := M_X9_startGame) (As := [iV x1, iV x2]) (st := []) dX9_begin_19 mk_X9_startGame km_RX9_98 kd_X9_startGame rfl (zlt hn rfl) sh_0 (q := (RX9, TX9, 14)) rfl rfl (zFits_rm d n n n (Nat.le_refl n)) (Nat.le_of_ble_eq_true rfl) rfl k12 h17 ?_
      rintro _ σ19 k20 ⟨rfl, h22⟩
      change Zm _ _ _ _ _ _ 22 _ [] _
      refine r_iconst dX9_begin_22 ?_
      exact r_zreturn dX9_begin_23 rfl (Or.inr rfl) ⟨k20, _, rfl, (Or.inr rfl), h22⟩
    · have h23 := h14.2 c16
      refine r_iconst dX9_begin_14 ?_
      exact r_zreturn dX9_begin_15 rfl (Or.inl rfl) ⟨k12, _, rfl, (Or.inl rfl), h23⟩
/-! StoneRoom.ko -/
theorem dX9_ko_0 : decode M_X9_ko.2.1 0 = .ok (.iload_n 1, 1) := by decide +kernel
theorem dX9_ko_1 : decode M_X9_ko.2.1 1 = .ok (.ifCond .lt 8, 3) := by decide +kernel
theorem dX9_ko_4 : decode M_X9_ko.2.1 4 = .ok (.iload_n 1, 1) := by decide +kernel
theorem dX9_ko_5 : decode M_X9_ko.2.1 5 = .ok (.iconst 2, 1) := by decide +kernel
theorem dX9_ko_6 : decode M_X9_ko.2.1 6 = .ok (.if_icmp .le 5, 3) := by decide +kernel
theorem dX9_ko_9 : decode M_X9_ko.2.1 9 = .ok (.iconst (-1), 1) := by decide +kernel
theorem dX9_ko_10 : decode M_X9_ko.2.1 10 = .ok (.ireturn, 1) := by decide +kernel
theorem dX9_ko_11 : decode M_X9_ko.2.1 11 = .ok (.aload_n 0, 1) := by decide +kernel
theorem dX9_ko_12 : decode M_X9_ko.2.1 12 = .ok (.getfield 94, 3) := by decide +kernel
theorem dX9_ko_15 : decode M_X9_ko.2.1 15 = .ok (.istore_n 2, 1) := by decide +kernel
theorem dX9_ko_16 : decode M_X9_ko.2.1 16 = .ok (.aload_n 0, 1) := by decide +kernel
theorem dX9_ko_17 : decode M_X9_ko.2.1 17 = .ok (.iload_n 1, 1) := by decide +kernel
theorem dX9_ko_18 : decode M_X9_ko.2.1 18 = .ok (.putfield 94, 3) := by decide +kernel
theorem dX9_ko_21 : decode M_X9_ko.2.1 21 = .ok (.iload_n 2, 1) := by decide +kernel
theorem dX9_ko_22 : decode M_X9_ko.2.1 22 = .ok (.ireturn, 1) := by decide +kernel
theorem w_X9_ko {X : ZX} {d n : Nat} {P : Int → ZSto → Prop} {x1 : Int} {σ : ZSto} (hn : 73 ≤ n)  (hx1 : R32 x1)
    (h : (x1 < 0 → P ((-1)) σ) ∧ (¬ (x1 < 0) → (x1 ≤ 2 → (∀ y8 : Int, y8 = gI σ 0 13 → P y8 (sI σ 0 13 x1))) ∧ (¬ (x1 ≤ 2) → P ((-1)) σ))) :
    ZkI X M_X9_ko (d + 1) n [.ref (zB X + 0), iV x1] σ P := by
  refine zk_of (ls := [some (.ref (zB X + 0)), some (iV x1), none]) pl_RX9 (Nat.le_of_ble_eq_true rfl) rfl (fun k0 => ?_)
  unfold Zn
  refine r_iload_n dX9_ko_0 rfl ?_
  refine r_if_lt (t := 9) dX9_ko_1 rfl hx1  (fun c1 => ?_) (fun c2 => ?_)
  · have h3 := h.1 c1
    refine r_iconst dX9_ko_9 ?_
    exact r_ireturn dX9_ko_10 rfl ⟨k0, _, rfl, (r32c rfl), h3⟩
  · have h4 := h.2 c2
    refine r_iload_n dX9_ko_4 rfl ?_
    refine r_iconst dX9_ko_5 ?_
    refine r_icmp_le (t := 11) dX9_ko_6 rfl hx1 (r32c rfl) (fun c5 => ?_) (fun c6 => ?_)
    · have h7 := h4.1 c5
      refine r_aload_n dX9_ko_11 rfl ?_
      refine r_getI dX9_ko_12 kf_RX9_94 (zlt hn rfl) sh_0 (Or.inl rfl) rfl ?_
      refine r_name (fun y8 e9 => ?_)
      have h10 := h7 y8 e9
      refine r_istore_n dX9_ko_15 rfl rfl ?_
      refine r_aload_n dX9_ko_16 rfl ?_
      refine r_iload_n dX9_ko_17 rfl ?_
      refine r_putI dX9_ko_18 kf_RX9_94 (zlt hn rfl) sh_0 rfl (Or.inl rfl) ?_
      have k11 := zok_o (i := 13) (x := x1) k0 sh_0 hx1
      refine r_iload_n dX9_ko_21 rfl ?_
      exact r_ireturn dX9_ko_22 rfl ⟨k11, _, rfl, (by rw [e9]; exact (k0.2.1 _ _)), h10⟩
    · have h12 := h4.2 c6
      refine r_iconst dX9_ko_9 ?_
      exact r_ireturn dX9_ko_10 rfl ⟨k0, _, rfl, (r32c rfl), h12⟩
/-! StoneRoom.feed -/
theorem dX9_feed_0 : decode M_X9_feed.2.1 0 = .ok (.aload_n 0, 1) := by decide +kernel
theorem dX9_feed_1 : decode M_X9_feed.2.1 1 = .ok (.getfield 24, 3) := by decide +kernel
theorem dX9_feed_4 : decode M_X9_feed.2.1 4 = .ok (.getfield 109, 3) := by decide +kernel
theorem dX9_feed_7 : decode M_X9_feed.2.1 7 = .ok (.bipush 20, 2) := by decide +kernel
theorem dX9_feed_9 : decode M_X9_feed.2.1 9 = .ok (.iadd, 1) := by decide +kernel
theorem dX9_feed_10 : decode M_X9_feed.2.1 10 = .ok (.sipush 1500, 3) := by decide +kernel
theorem dX9_feed_13 : decode M_X9_feed.2.1 13 = .ok (.if_icmp .le 5, 3) := by decide +kernel
theorem dX9_feed_16 : decode M_X9_feed.2.1 16 = .ok (.iconst (-1), 1) := by decide +kernel
theorem dX9_feed_17 : decode M_X9_feed.2.1 17 = .ok (.ireturn, 1) := by decide +kernel
theorem dX9_feed_18 : decode M_X9_feed.2.1 18 = .ok (.aload_n 0, 1) := by decide +kernel
theorem dX9_feed_19 : decode M_X9_feed.2.1 19 = .ok (.getfield 24, 3) := by decide +kernel
theorem dX9_feed_22 : decode M_X9_feed.2.1 22 = .ok (.iload_n 1, 1) := by decide +kernel
theorem dX9_feed_23 : decode M_X9_feed.2.1 23 = .ok (.invokevirtual 112, 3) := by decide +kernel
theorem dX9_feed_26 : decode M_X9_feed.2.1 26 = .ok (.aload_n 0, 1) := by decide +kernel
theorem dX9_feed_27 : decode M_X9_feed.2.1 27 = .ok (.getfield 24, 3) := by decide +kernel
theorem dX9_feed_30 : decode M_X9_feed.2.1 30 = .ok (.iload_n 2, 1) := by decide +kernel
theorem dX9_feed_31 : decode M_X9_feed.2.1 31 = .ok (.invokevirtual 112, 3) := by decide +kernel
theorem dX9_feed_34 : decode M_X9_feed.2.1 34 = .ok (.aload_n 0, 1) := by decide +kernel
theorem dX9_feed_35 : decode M_X9_feed.2.1 35 = .ok (.getfield 24, 3) := by decide +kernel
theorem dX9_feed_38 : decode M_X9_feed.2.1 38 = .ok (.iload_n 3, 1) := by decide +kernel
theorem dX9_feed_39 : decode M_X9_feed.2.1 39 = .ok (.invokevirtual 112, 3) := by decide +kernel
theorem dX9_feed_42 : decode M_X9_feed.2.1 42 = .ok (.aload_n 0, 1) := by decide +kernel
theorem dX9_feed_43 : decode M_X9_feed.2.1 43 = .ok (.getfield 24, 3) := by decide +kernel
theorem dX9_feed_46 : decode M_X9_feed.2.1 46 = .ok (.iload 4, 2) := by decide +kernel
theorem dX9_feed_48 : decode M_X9_feed.2.1 48 = .ok (.invokevirtual 112, 3) := by decide +kernel
theorem dX9_feed_51 : decode M_X9_feed.2.1 51 = .ok (.aload_n 0, 1) := by decide +kernel
theorem dX9_feed_52 : decode M_X9_feed.2.1 52 = .ok (.getfield 24, 3) := by decide +kernel
theorem dX9_feed_55 : decode M_X9_feed.2.1 55 = .ok (.iload 5, 2) := by decide +kernel
theorem dX9_feed_57 : decode M_X9_feed.2.1 57 = .ok (.invokevirtual 112, 3) := by decide +kernel
theorem dX9_feed_60 : decode M_X9_feed.2.1 60 = .ok (.aload_n 0, 1) := by decide +kernel
theorem dX9_feed_61 : decode M_X9_feed.2.1 61 = .ok (.getfield 24, 3) := by decide +kernel
theorem dX9_feed_64 : decode M_X9_feed.2.1 64 = .ok (.getfield 109, 3) := by decide +kernel
theorem dX9_feed_67 : decode M_X9_feed.2.1 67 = .ok (.ireturn, 1) := by decide +kernel
theorem w_X9_feed {X : ZX} {d n : Nat} {P : Int → ZSto → Prop} {x1 : Int} {x2 : Int} {x3 : Int} {x4 : Int} {x5 : Int} {σ : ZSto} (hn : 73 ≤ n)  (hx1 : R32 x1) (hx2 : R32 x2) (hx3 : R32 x3) (hx4 : R32 x4) (hx5 : R32 x5)
    (h : R32 ((gI σ 29 1) + 20) ∧ ((gI σ 29 1) + 20 ≤ 1500 → ZkV X M_X1_addNumber d n [.ref (zB X + 29), iV x1] σ (fun σ7 => ZkV X M_X1_addNumber d n [.ref (zB X + 29), iV x2] σ7 (fun σ12 => ZkV X M_X1_addNumber d n [.ref (zB X + 29), iV x3] σ12 (fun σ17 => ZkV X M_X1_addNumber d n [.ref (zB X + 29), iV x4] σ17 (fun σ22 => ZkV X M_X1_addNumber d n [.ref (zB X + 29), iV x5] σ22 (fun σ27 => P (gI σ27 29 1) σ27)))))) ∧ (¬ ((gI σ 29 1) + 20 ≤ 1500) → P ((-1)) σ)) :
    ZkI X M_X9_feed (d + 1) n [.ref (zB X + 0), iV x1, iV x2, iV x3, iV x4, iV x5] σ P := by
  refine zk_of (ls := [some (.ref (zB X + 0)), some (iV x1), some (iV x2), some (iV x3), some (iV x4), some (iV x5)]) pl_RX9 (Nat.le_of_ble_eq_true rfl) rfl (fun k0 => ?_)
  unfold Zn
  refine r_aload_n dX9_feed_0 rfl ?_
  refine r_getP (a := 29) dX9_feed_1 kf_RX9_24 (zlt hn rfl) sh_0 rfl (k0.1 _ _ _ (zlt hn rfl) p_0_2) ?_
  refine r_getI dX9_feed_4 kf_RX9_109 (zlt hn rfl) sh_29 (Or.inl rfl) rfl ?_
  refine r_bipush dX9_feed_7 rfl ?_
  refine r_iadd dX9_feed_9 ?_
  refine r_sipush dX9_feed_10 rfl ?_
  obtain ⟨h1, h2⟩ := h
  refine r_icmp_le (t := 18) dX9_feed_13 rfl h1 (r32c rfl) (fun c3 => ?_) (fun c4 => ?_)
  · have h5 := h2.1 c3
    refine r_aload_n dX9_feed_18 rfl ?_
    refine r_getP (a := 29) dX9_feed_19 kf_RX9_24 (zlt hn rfl) sh_0 rfl (k0.1 _ _ _ (zlt hn rfl) p_0_2) ?_
    refine r_iload_n dX9_feed_22 rfl ?_
    refine n_callV (N := M_X1_addNumber) (As := [iV x1]) (st := []) dX9_feed_23 mk_X1_addNumber km_RX9_112 kd_X1_addNumber rfl (zlt hn rfl) sh_29 (q := (RX1, TX1, 2)) rfl rfl (zFits_rm d n n n (Nat.le_refl n)) (Nat.le_of_ble_eq_true rfl) rfl k0 h5 ?_
    rintro _ σ7 k8 ⟨rfl, h10⟩
    change Zm _ _ _ _ _ _ 26 _ [] _
    refine r_aload_n dX9_feed_26 rfl ?_
    refine r_getP (a := 29) dX9_feed_27 kf_RX9_24 (zlt hn rfl) sh_0 rfl (k8.1 _ _ _ (zlt hn rfl) p_0_2) ?_
    refine r_iload_n dX9_feed_30 rfl ?_
    refine n_callV (N := M_X1_addNumber) (As := [iV x2]) (st := []) dX9_feed_31 mk_X1_addNumber km_RX9_112 kd_X1_addNumber rfl (zlt hn rfl) sh_29 (q := (RX1, TX1, 2)) rfl rfl (zFits_rm d n n n (Nat.le_refl n)) (Nat.le_of_ble_eq_true rfl) rfl k8 h10 ?_
    rintro _ σ12 k13 ⟨rfl, h15⟩
    change Zm _ _ _ _ _ _ 34 _ [] _
    refine r_aload_n dX9_feed_34 rfl ?_
    refine r_getP (a := 29) dX9_feed_35 kf_RX9_24 (zlt hn rfl) sh_0 rfl (k13.1 _ _ _ (zlt hn rfl) p_0_2) ?_
    refine r_iload_n dX9_feed_38 rfl ?_
    refine n_callV (N := M_X1_addNumber) (As := [iV x3]) (st := []) dX9_feed_39 mk_X1_addNumber km_RX9_112 kd_X1_addNumber rfl (zlt hn rfl) sh_29 (q := (RX1, TX1, 2)) rfl rfl (zFits_rm d n n n (Nat.le_refl n)) (Nat.le_of_ble_eq_true rfl) rfl k13 h15 ?_
    rintro _ σ17 k18 ⟨rfl, h20⟩
    change Zm _ _ _ _ _ _ 42 _ [] _
    refine r_aload_n dX9_feed_42 rfl ?_
    refine r_getP (a := 29) dX9_feed_43 kf_RX9_24 (zlt hn rfl) sh_0 rfl (k18.1 _ _ _ (zlt hn rfl) p_0_2) ?_
    refine r_iload dX9_feed_46 rfl ?_
    refine n_callV (N := M_X1_addNumber) (As := [iV x4]) (st := []) dX9_feed_48 mk_X1_addNumber km_RX9_112 kd_X1_addNumber rfl (zlt hn rfl) sh_29 (q := (RX1, TX1, 2)) rfl rfl (zFits_rm d n n n (Nat.le_refl n)) (Nat.le_of_ble_eq_true rfl) rfl k18 h20 ?_
    rintro _ σ22 k23 ⟨rfl, h25⟩
    change Zm _ _ _ _ _ _ 51 _ [] _
    refine r_aload_n dX9_feed_51 rfl ?_
    refine r_getP (a := 29) dX9_feed_52 kf_RX9_24 (zlt hn rfl) sh_0 rfl (k23.1 _ _ _ (zlt hn rfl) p_0_2) ?_
    refine r_iload dX9_feed_55 rfl ?_
    refine n_callV (N := M_X1_addNumber) (As := [iV x5]) (st := []) dX9_feed_57 mk_X1_addNumber km_RX9_112 kd_X1_addNumber rfl (zlt hn rfl) sh_29 (q := (RX1, TX1, 2)) rfl rfl (zFits_rm d n n n (Nat.le_refl n)) (Nat.le_of_ble_eq_true rfl) rfl k23 h25 ?_
    rintro _ σ27 k28 ⟨rfl, h30⟩
    change Zm _ _ _ _ _ _ 60 _ [] _
    refine r_aload_n dX9_feed_60 rfl ?_
    refine r_getP (a := 29) dX9_feed_61 kf_RX9_24 (zlt hn rfl) sh_0 rfl (k28.1 _ _ _ (zlt hn rfl) p_0_2) ?_
    refine r_getI dX9_feed_64 kf_RX9_109 (zlt hn rfl) sh_29 (Or.inl rfl) rfl ?_
    exact r_ireturn dX9_feed_67 rfl ⟨k28, _, rfl, (k28.2.1 _ _), h30⟩
  · have h31 := h2.2 c4
    refine r_iconst dX9_feed_16 ?_
    exact r_ireturn dX9_feed_17 rfl ⟨k0, _, rfl, (r32c rfl), h31⟩
/-! StoneRoom.end -/
theorem dX9_end_0 : decode M_X9_end.2.1 0 = .ok (.iload_n 1, 1) := by decide +kernel
theorem dX9_end_1 : decode M_X9_end.2.1 1 = .ok (.ifCond .lt 14, 3) := by decide +kernel
theorem dX9_end_4 : decode M_X9_end.2.1 4 = .ok (.iload_n 1, 1) := by decide +kernel
theorem dX9_end_5 : decode M_X9_end.2.1 5 = .ok (.aload_n 0, 1) := by decide +kernel
theorem dX9_end_6 : decode M_X9_end.2.1 6 = .ok (.getfield 24, 3) := by decide +kernel
theorem dX9_end_9 : decode M_X9_end.2.1 9 = .ok (.getfield 109, 3) := by decide +kernel
theorem dX9_end_12 : decode M_X9_end.2.1 12 = .ok (.if_icmp .le 5, 3) := by decide +kernel
theorem dX9_end_15 : decode M_X9_end.2.1 15 = .ok (.iconst (-1), 1) := by decide +kernel
theorem dX9_end_16 : decode M_X9_end.2.1 16 = .ok (.ireturn, 1) := by decide +kernel
theorem dX9_end_17 : decode M_X9_end.2.1 17 = .ok (.aload_n 0, 1) := by decide +kernel
theorem dX9_end_18 : decode M_X9_end.2.1 18 = .ok (.getfield 24, 3) := by decide +kernel
theorem dX9_end_21 : decode M_X9_end.2.1 21 = .ok (.iload_n 1, 1) := by decide +kernel
theorem dX9_end_22 : decode M_X9_end.2.1 22 = .ok (.putfield 109, 3) := by decide +kernel
theorem dX9_end_25 : decode M_X9_end.2.1 25 = .ok (.iload_n 1, 1) := by decide +kernel
theorem dX9_end_26 : decode M_X9_end.2.1 26 = .ok (.ireturn, 1) := by decide +kernel
theorem w_X9_end {X : ZX} {d n : Nat} {P : Int → ZSto → Prop} {x1 : Int} {σ : ZSto} (hn : 73 ≤ n)  (hx1 : R32 x1)
    (h : (x1 < 0 → P ((-1)) σ) ∧ (¬ (x1 < 0) → (x1 ≤ gI σ 29 1 → P x1 (sI σ 29 1 x1)) ∧ (¬ (x1 ≤ gI σ 29 1) → P ((-1)) σ))) :
    ZkI X M_X9_end (d + 1) n [.ref (zB X + 0), iV x1] σ P := by
  refine zk_of (ls := [some (.ref (zB X + 0)), some (iV x1)]) pl_RX9 (Nat.le_of_ble_eq_true rfl) rfl (fun k0 => ?_)
  unfold Zn
  refine r_iload_n dX9_end_0 rfl ?_
  refine r_if_lt (t := 15) dX9_end_1 rfl hx1  (fun c1 => ?_) (fun c2 => ?_)
  · have h3 := h.1 c1
    refine r_iconst dX9_end_15 ?_
    exact r_ireturn dX9_end_16 rfl ⟨k0, _, rfl, (r32c rfl), h3⟩
  · have h4 := h.2 c2
    refine r_iload_n dX9_end_4 rfl ?_
    refine r_aload_n dX9_end_5 rfl ?_
    refine r_getP (a := 29) dX9_end_6 kf_RX9_24 (zlt hn rfl) sh_0 rfl (k0.1 _ _ _ (zlt hn rfl) p_0_2) ?_
    refine r_getI dX9_end_9 kf_RX9_109 (zlt hn rfl) sh_29 (Or.inl rfl) rfl ?_
    refine r_icmp_le (t := 17) dX9_end_12 rfl hx1 (k0.2.1 _ _) (fun c5 => ?_) (fun c6 => ?_)
    · have h7 := h4.1 c5
      refine r_aload_n dX9_end_17 rfl ?_
      refine r_getP (a := 29) dX9_end_18 kf_RX9_24 (zlt hn rfl) sh_0 rfl (k0.1 _ _ _ (zlt hn rfl) p_0_2) ?_
      refine r_iload_n dX9_end_21 rfl ?_
      refine r_putI dX9_end_22 kf_RX9_109 (zlt hn rfl) sh_29 rfl (Or.inl rfl) ?_
      have k8 := zok_o (i := 1) (x := x1) k0 sh_29 hx1
      refine r_iload_n dX9_end_25 rfl ?_
      exact r_ireturn dX9_end_26 rfl ⟨k8, _, rfl, hx1, h7⟩
    · have h9 := h4.2 c6
      refine r_iconst dX9_end_15 ?_
      exact r_ireturn dX9_end_16 rfl ⟨k0, _, rfl, (r32c rfl), h9⟩
/-! StoneRoom.read -/
theorem dX9_read_0 : decode M_X9_read.2.1 0 = .ok (.aload_n 0, 1) := by decide +kernel
theorem dX9_read_1 : decode M_X9_read.2.1 1 = .ok (.getfield 46, 3) := by decide +kernel
theorem dX9_read_4 : decode M_X9_read.2.1 4 = .ok (.aload_n 0, 1) := by decide +kernel
theorem dX9_read_5 : decode M_X9_read.2.1 5 = .ok (.getfield 16, 3) := by decide +kernel
theorem dX9_read_8 : decode M_X9_read.2.1 8 = .ok (.aload_n 0, 1) := by decide +kernel
theorem dX9_read_9 : decode M_X9_read.2.1 9 = .ok (.getfield 94, 3) := by decide +kernel
theorem dX9_read_12 : decode M_X9_read.2.1 12 = .ok (.invokevirtual 115, 3) := by decide +kernel
theorem dX9_read_15 : decode M_X9_read.2.1 15 = .ok (.istore_n 1, 1) := by decide +kernel
theorem dX9_read_16 : decode M_X9_read.2.1 16 = .ok (.aload_n 0, 1) := by decide +kernel
theorem dX9_read_17 : decode M_X9_read.2.1 17 = .ok (.getfield 24, 3) := by decide +kernel
theorem dX9_read_20 : decode M_X9_read.2.1 20 = .ok (.iconst 0, 1) := by decide +kernel
theorem dX9_read_21 : decode M_X9_read.2.1 21 = .ok (.putfield 109, 3) := by decide +kernel
theorem dX9_read_24 : decode M_X9_read.2.1 24 = .ok (.iload_n 1, 1) := by decide +kernel
theorem dX9_read_25 : decode M_X9_read.2.1 25 = .ok (.ifCond .ne 40, 3) := by decide +kernel
theorem dX9_read_28 : decode M_X9_read.2.1 28 = .ok (.aload_n 0, 1) := by decide +kernel
theorem dX9_read_29 : decode M_X9_read.2.1 29 = .ok (.getfield 10, 3) := by decide +kernel
theorem dX9_read_32 : decode M_X9_read.2.1 32 = .ok (.astore_n 2, 1) := by decide +kernel
theorem dX9_read_33 : decode M_X9_read.2.1 33 = .ok (.aload_n 0, 1) := by decide +kernel
theorem dX9_read_34 : decode M_X9_read.2.1 34 = .ok (.aload_n 0, 1) := by decide +kernel
theorem dX9_read_35 : decode M_X9_read.2.1 35 = .ok (.getfield 16, 3) := by decide +kernel
theorem dX9_read_38 : decode M_X9_read.2.1 38 = .ok (.putfield 10, 3) := by decide +kernel
theorem dX9_read_41 : decode M_X9_read.2.1 41 = .ok (.aload_n 0, 1) := by decide +kernel
theorem dX9_read_42 : decode M_X9_read.2.1 42 = .ok (.aload_n 2, 1) := by decide +kernel
theorem dX9_read_43 : decode M_X9_read.2.1 43 = .ok (.putfield 16, 3) := by decide +kernel
theorem dX9_read_46 : decode M_X9_read.2.1 46 = .ok (.aload_n 0, 1) := by decide +kernel
theorem dX9_read_47 : decode M_X9_read.2.1 47 = .ok (.getfield 34, 3) := by decide +kernel
theorem dX9_read_50 : decode M_X9_read.2.1 50 = .ok (.aload_n 0, 1) := by decide +kernel
theorem dX9_read_51 : decode M_X9_read.2.1 51 = .ok (.getfield 10, 3) := by decide +kernel
theorem dX9_read_54 : decode M_X9_read.2.1 54 = .ok (.getfield 119, 3) := by decide +kernel
theorem dX9_read_57 : decode M_X9_read.2.1 57 = .ok (.invokevirtual 122, 3) := by decide +kernel
theorem dX9_read_60 : decode M_X9_read.2.1 60 = .ok (.aload_n 0, 1) := by decide +kernel
theorem dX9_read_61 : decode M_X9_read.2.1 61 = .ok (.iconst 0, 1) := by decide +kernel
theorem dX9_read_62 : decode M_X9_read.2.1 62 = .ok (.invokevirtual 125, 3) := by decide +kernel
theorem dX9_read_65 : decode M_X9_read.2.1 65 = .ok (.iload_n 1, 1) := by decide +kernel
theorem dX9_read_66 : decode M_X9_read.2.1 66 = .ok (.ireturn, 1) := by decide +kernel
theorem w_X9_read {X : ZX} {d n : Nat} {P : Int → ZSto → Prop}  {σ : ZSto} (hn : 73 ≤ n)  
    (h : (∃ t1, gP σ 0 1 = some t1 ∧ zIsT t1 ∧ ZkI X M_X5_readText d n [.ref (zB X + 49), .ref (zB X + t1), iV (gI σ 0 13)] σ (fun v5 σ6 => (¬ v5 = 0 → P v5 (sI σ6 29 1 0)) ∧ (v5 = 0 → (∃ t15, gP σ6 0 0 = some t15 ∧ zIsT t15 ∧ (∃ t19, gP σ6 0 1 = some t19 ∧ zIsT t19 ∧ ZkV X M_X0_shape d n [.ref (zB X + 33), iV (gI σ6 t19 13)] (sP (sP (sI σ6 29 1 0) 0 0 ((some t19))) 0 1 ((some t15))) (fun σ26 => ZkV X M_X9_moveTo d n [.ref (zB X + 0), iV 0] σ26 (fun σ31 => P v5 σ31)))))))) :
    ZkI X M_X9_read (d + 1) n [.ref (zB X + 0)] σ P := by
  refine zk_of (ls := [some (.ref (zB X + 0)), none, none]) pl_RX9 (Nat.le_of_ble_eq_true rfl) rfl (fun k0 => ?_)
  unfold Zn
  refine r_aload_n dX9_read_0 rfl ?_
  refine r_getP (a := 49) dX9_read_1 kf_RX9_46 (zlt hn rfl) sh_0 rfl (k0.1 _ _ _ (zlt hn rfl) p_0_6) ?_
  refine r_aload_n dX9_read_4 rfl ?_
  obtain ⟨t1, h2, h3, h4⟩ := h
  refine r_getP (a := t1) dX9_read_5 kf_RX9_16 (zlt hn rfl) sh_0 rfl h2 ?_
  refine r_aload_n dX9_read_8 rfl ?_
  refine r_getI dX9_read_9 kf_RX9_94 (zlt hn rfl) sh_0 (Or.inl rfl) rfl ?_
  refine n_callV (N := M_X5_readText) (As := [.ref (zB X + t1), iV (gI σ 0 13)]) (st := []) dX9_read_12 mk_X5_readText km_RX9_115 kd_X5_readText rfl (zlt hn rfl) sh_49 (q := (RX5, TX5, 16)) rfl rfl (zFits_rm d n n n (Nat.le_refl n)) (Nat.le_of_ble_eq_true rfl) rfl k0 h4 ?_
  rintro _ σ6 k7 ⟨v5, rfl, h8, h9⟩
  change Zm _ _ _ _ _ _ 15 _ [iV v5] _
  refine r_istore_n dX9_read_15 rfl rfl ?_
  refine r_aload_n dX9_read_16 rfl ?_
  refine r_getP (a := 29) dX9_read_17 kf_RX9_24 (zlt hn rfl) sh_0 rfl (k7.1 _ _ _ (zlt hn rfl) p_0_2) ?_
  refine r_iconst dX9_read_20 ?_
  refine r_putI dX9_read_21 kf_RX9_109 (zlt hn rfl) sh_29 rfl (Or.inl rfl) ?_
  have k10 := zok_o (i := 1) (x := 0) k7 sh_29 (r32c rfl)
  refine r_iload_n dX9_read_24 rfl ?_
  refine r_if_ne (t := 65) dX9_read_25 rfl h8  (fun c11 => ?_) (fun c12 => ?_)
  · have h13 := h9.1 c11
    refine r_iload_n dX9_read_65 rfl ?_
    exact r_ireturn dX9_read_66 rfl ⟨k10, _, rfl, h8, h13⟩
  · have h14 := h9.2 c12
    refine r_aload_n dX9_read_28 rfl ?_
    obtain ⟨t15, h16, h17, h18⟩ := h14
    refine r_getP (a := t15) dX9_read_29 kf_RX9_10 (zlt hn rfl) sh_0 rfl h16 ?_
    refine r_astore_n dX9_read_32 rfl rfl ?_
    refine r_aload_n dX9_read_33 rfl ?_
    refine r_aload_n dX9_read_34 rfl ?_
    obtain ⟨t19, h20, h21, h22⟩ := h18
    refine r_getP (a := t19) dX9_read_35 kf_RX9_16 (zlt hn rfl) sh_0 rfl h20 ?_
    refine r_putP dX9_read_38 kf_RX9_10 (zlt hn rfl) sh_0 rfl rfl ?_
    have k23 := zok_p (a := 0) (i := 0) (x := some t19) k10 rfl
    refine r_aload_n dX9_read_41 rfl ?_
    refine r_aload_n dX9_read_42 rfl ?_
    refine r_putP dX9_read_43 kf_RX9_16 (zlt hn rfl) sh_0 rfl rfl ?_
    have k24 := zok_p (a := 0) (i := 1) (x := some t15) k23 rfl
    refine r_aload_n dX9_read_46 rfl ?_
    refine r_getP (a := 33) dX9_read_47 kf_RX9_34 (zlt hn rfl) sh_0 rfl (k24.1 _ _ _ (zlt hn rfl) p_0_4) ?_
    refine r_aload_n dX9_read_50 rfl ?_
    refine r_getP (a := t19) dX9_read_51 kf_RX9_10 (zlt hn rfl) sh_0 rfl ((gP_f (by decide)).trans (gP_same _ _ _ _)) ?_
    refine r_getI dX9_read_54 kf_RX9_119 (zT_lt h21 hn) (zT_s h21) (Or.inl rfl) ((gI_sP _ _ _ _ _ _).trans ((gI_sP _ _ _ _ _ _).trans (gI_f (by decide)))) ?_
    refine n_callV (N := M_X0_shape) (As := [iV (gI σ6 t19 13)]) (st := []) dX9_read_57 mk_X0_shape km_RX9_122 kd_X0_shape rfl (zlt hn rfl) sh_33 (q := (RX0, TX0, 13)) rfl rfl (zFits_rm d n n n (Nat.le_refl n)) (Nat.le_of_ble_eq_true rfl) rfl k24 h22 ?_
    rintro _ σ26 k27 ⟨rfl, h29⟩
    change Zm _ _ _ _ _ _ 60 _ [] _
    refine r_aload_n dX9_read_60 rfl ?_
    refine r_iconst dX9_read_61 ?_
    refine n_callV (N := M_X9_moveTo) (As := [iV 0]) (st := []) dX9_read_62 mk_X9_moveTo km_RX9_125 kd_X9_moveTo rfl (zlt hn rfl) sh_0 (q := (RX9, TX9, 14)) rfl rfl (zFits_rm d n n n (Nat.le_refl n)) (Nat.le_of_ble_eq_true rfl) rfl k27 h29 ?_
    rintro _ σ31 k32 ⟨rfl, h34⟩
    change Zm _ _ _ _ _ _ 65 _ [] _
    refine r_iload_n dX9_read_65 rfl ?_
    exact r_ireturn dX9_read_66 rfl ⟨k32, _, rfl, h8, h34⟩
/-! StoneRoom.place -/
theorem dX9_place_0 : decode M_X9_place.2.1 0 = .ok (.aload_n 0, 1) := by decide +kernel
theorem dX9_place_1 : decode M_X9_place.2.1 1 = .ok (.getfield 46, 3) := by decide +kernel
theorem dX9_place_4 : decode M_X9_place.2.1 4 = .ok (.getfield 128, 3) := by decide +kernel
theorem dX9_place_7 : decode M_X9_place.2.1 7 = .ok (.ireturn, 1) := by decide +kernel
theorem w_X9_place {X : ZX} {d n : Nat} {P : Int → ZSto → Prop}  {σ : ZSto} (hn : 73 ≤ n)  
    (h : P (gI σ 49 9) σ) :
    ZkI X M_X9_place (d + 1) n [.ref (zB X + 0)] σ P := by
  refine zk_of (ls := [some (.ref (zB X + 0))]) pl_RX9 (Nat.le_of_ble_eq_true rfl) rfl (fun k0 => ?_)
  unfold Zn
  refine r_aload_n dX9_place_0 rfl ?_
  refine r_getP (a := 49) dX9_place_1 kf_RX9_46 (zlt hn rfl) sh_0 rfl (k0.1 _ _ _ (zlt hn rfl) p_0_6) ?_
  refine r_getI dX9_place_4 kf_RX9_128 (zlt hn rfl) sh_49 (Or.inl rfl) rfl ?_
  exact r_ireturn dX9_place_7 rfl ⟨k0, _, rfl, (k0.2.1 _ _), h⟩
/-! StoneRoom.write -/
theorem dX9_write_0 : decode M_X9_write.2.1 0 = .ok (.aload_n 0, 1) := by decide +kernel
theorem dX9_write_1 : decode M_X9_write.2.1 1 = .ok (.getfield 55, 3) := by decide +kernel
theorem dX9_write_4 : decode M_X9_write.2.1 4 = .ok (.aload_n 0, 1) := by decide +kernel
theorem dX9_write_5 : decode M_X9_write.2.1 5 = .ok (.getfield 10, 3) := by decide +kernel
theorem dX9_write_8 : decode M_X9_write.2.1 8 = .ok (.invokevirtual 131, 3) := by decide +kernel
theorem dX9_write_11 : decode M_X9_write.2.1 11 = .ok (.aload_n 0, 1) := by decide +kernel
theorem dX9_write_12 : decode M_X9_write.2.1 12 = .ok (.getfield 28, 3) := by decide +kernel
theorem dX9_write_15 : decode M_X9_write.2.1 15 = .ok (.getfield 109, 3) := by decide +kernel
theorem dX9_write_18 : decode M_X9_write.2.1 18 = .ok (.ireturn, 1) := by decide +kernel
theorem w_X9_write {X : ZX} {d n : Nat} {P : Int → ZSto → Prop}  {σ : ZSto} (hn : 73 ≤ n)  
    (h : (∃ t1, gP σ 0 0 = some t1 ∧ zIsT t1 ∧ ZkV X M_X8_writeGame d n [.ref (zB X + 52), .ref (zB X + t1)] σ (fun σ6 => P (gI σ6 31 1) σ6))) :
    ZkI X M_X9_write (d + 1) n [.ref (zB X + 0)] σ P := by
  refine zk_of (ls := [some (.ref (zB X + 0))]) pl_RX9 (Nat.le_of_ble_eq_true rfl) rfl (fun k0 => ?_)
  unfold Zn
  refine r_aload_n dX9_write_0 rfl ?_
  refine r_getP (a := 52) dX9_write_1 kf_RX9_55 (zlt hn rfl) sh_0 rfl (k0.1 _ _ _ (zlt hn rfl) p_0_7) ?_
  refine r_aload_n dX9_write_4 rfl ?_
  obtain ⟨t1, h2, h3, h4⟩ := h
  refine r_getP (a := t1) dX9_write_5 kf_RX9_10 (zlt hn rfl) sh_0 rfl h2 ?_
  refine n_callV (N := M_X8_writeGame) (As := [.ref (zB X + t1)]) (st := []) dX9_write_8 mk_X8_writeGame km_RX9_131 kd_X8_writeGame rfl (zlt hn rfl) sh_52 (q := (RX8, TX8, 1)) rfl rfl (zFits_rm d n n n (Nat.le_refl n)) (Nat.le_of_ble_eq_true rfl) rfl k0 h4 ?_
  rintro _ σ6 k7 ⟨rfl, h9⟩
  change Zm _ _ _ _ _ _ 11 _ [] _
  refine r_aload_n dX9_write_11 rfl ?_
  refine r_getP (a := 31) dX9_write_12 kf_RX9_28 (zlt hn rfl) sh_0 rfl (k7.1 _ _ _ (zlt hn rfl) p_0_3) ?_
  refine r_getI dX9_write_15 kf_RX9_109 (zlt hn rfl) sh_31 (Or.inl rfl) rfl ?_
  exact r_ireturn dX9_write_18 rfl ⟨k7, _, rfl, (k7.2.1 _ _), h9⟩
/-! StoneRoom.octet -/
theorem dX9_octet_0 : decode M_X9_octet.2.1 0 = .ok (.aload_n 0, 1) := by decide +kernel
theorem dX9_octet_1 : decode M_X9_octet.2.1 1 = .ok (.getfield 28, 3) := by decide +kernel
theorem dX9_octet_4 : decode M_X9_octet.2.1 4 = .ok (.iload_n 1, 1) := by decide +kernel
theorem dX9_octet_5 : decode M_X9_octet.2.1 5 = .ok (.invokevirtual 135, 3) := by decide +kernel
theorem dX9_octet_8 : decode M_X9_octet.2.1 8 = .ok (.ireturn, 1) := by decide +kernel
theorem w_X9_octet {X : ZX} {d n : Nat} {P : Int → ZSto → Prop} {x1 : Int} {σ : ZSto} (hn : 73 ≤ n)  (hx1 : R32 x1)
    (h : ZkI X M_X1_byteAt d n [.ref (zB X + 31), iV x1] σ (fun v1 σ2 => P v1 σ2)) :
    ZkI X M_X9_octet (d + 1) n [.ref (zB X + 0), iV x1] σ P := by
  refine zk_of (ls := [some (.ref (zB X + 0)), some (iV x1)]) pl_RX9 (Nat.le_of_ble_eq_true rfl) rfl (fun k0 => ?_)
  unfold Zn
  refine r_aload_n dX9_octet_0 rfl ?_
  refine r_getP (a := 31) dX9_octet_1 kf_RX9_28 (zlt hn rfl) sh_0 rfl (k0.1 _ _ _ (zlt hn rfl) p_0_3) ?_
  refine r_iload_n dX9_octet_4 rfl ?_
  refine n_callV (N := M_X1_byteAt) (As := [iV x1]) (st := []) dX9_octet_5 mk_X1_byteAt km_RX9_135 kd_X1_byteAt rfl (zlt hn rfl) sh_31 (q := (RX1, TX1, 2)) rfl rfl (zFits_rm d n n n (Nat.le_refl n)) (Nat.le_of_ble_eq_true rfl) rfl k0 h ?_
  rintro _ σ2 k3 ⟨v1, rfl, h4, h5⟩
  change Zm _ _ _ _ _ _ 8 _ [iV v1] _
  exact r_ireturn dX9_octet_8 rfl ⟨k3, _, rfl, h4, h5⟩
/-! StoneRoom.let -/
theorem dX9_let_0 : decode M_X9_let.2.1 0 = .ok (.aload_n 0, 1) := by decide +kernel
theorem dX9_let_1 : decode M_X9_let.2.1 1 = .ok (.iload_n 1, 1) := by decide +kernel
theorem dX9_let_2 : decode M_X9_let.2.1 2 = .ok (.invokevirtual 139, 3) := by decide +kernel
theorem dX9_let_5 : decode M_X9_let.2.1 5 = .ok (.ireturn, 1) := by decide +kernel
theorem w_X9_let {X : ZX} {d n : Nat} {P : Int → ZSto → Prop} {x1 : Int} {σ : ZSto} (hn : 73 ≤ n)  (hx1 : R32 x1)
    (h : ZkI X M_X9_statusOf d n [.ref (zB X + 0), iV x1] σ (fun v1 σ2 => P v1 σ2)) :
    ZkI X M_X9_let (d + 1) n [.ref (zB X + 0), iV x1] σ P := by
  refine zk_of (ls := [some (.ref (zB X + 0)), some (iV x1)]) pl_RX9 (Nat.le_of_ble_eq_true rfl) rfl (fun k0 => ?_)
  unfold Zn
  refine r_aload_n dX9_let_0 rfl ?_
  refine r_iload_n dX9_let_1 rfl ?_
  refine n_callV (N := M_X9_statusOf) (As := [iV x1]) (st := []) dX9_let_2 mk_X9_statusOf km_RX9_139 kd_X9_statusOf rfl (zlt hn rfl) sh_0 (q := (RX9, TX9, 14)) rfl rfl (zFits_rm d n n n (Nat.le_refl n)) (Nat.le_of_ble_eq_true rfl) rfl k0 h ?_
  rintro _ σ2 k3 ⟨v1, rfl, h4, h5⟩
  change Zm _ _ _ _ _ _ 5 _ [iV v1] _
  exact r_ireturn dX9_let_5 rfl ⟨k3, _, rfl, h4, h5⟩
/-! StoneRoom.play -/
theorem dX9_play_0 : decode M_X9_play.2.1 0 = .ok (.aload_n 0, 1) := by decide +kernel
theorem dX9_play_1 : decode M_X9_play.2.1 1 = .ok (.iload_n 1, 1) := by decide +kernel
theorem dX9_play_2 : decode M_X9_play.2.1 2 = .ok (.invokevirtual 139, 3) := by decide +kernel
theorem dX9_play_5 : decode M_X9_play.2.1 5 = .ok (.istore_n 2, 1) := by decide +kernel
theorem dX9_play_6 : decode M_X9_play.2.1 6 = .ok (.iload_n 2, 1) := by decide +kernel
theorem dX9_play_7 : decode M_X9_play.2.1 7 = .ok (.ifCond .eq 5, 3) := by decide +kernel
theorem dX9_play_10 : decode M_X9_play.2.1 10 = .ok (.iload_n 2, 1) := by decide +kernel
theorem dX9_play_11 : decode M_X9_play.2.1 11 = .ok (.ireturn, 1) := by decide +kernel
theorem dX9_play_12 : decode M_X9_play.2.1 12 = .ok (.aload_n 0, 1) := by decide +kernel
theorem dX9_play_13 : decode M_X9_play.2.1 13 = .ok (.getfield 10, 3) := by decide +kernel
theorem dX9_play_16 : decode M_X9_play.2.1 16 = .ok (.aload_n 0, 1) := by decide +kernel
theorem dX9_play_17 : decode M_X9_play.2.1 17 = .ok (.getfield 10, 3) := by decide +kernel
theorem dX9_play_20 : decode M_X9_play.2.1 20 = .ok (.getfield 142, 3) := by decide +kernel
theorem dX9_play_23 : decode M_X9_play.2.1 23 = .ok (.invokevirtual 145, 3) := by decide +kernel
theorem dX9_play_26 : decode M_X9_play.2.1 26 = .ok (.istore_n 3, 1) := by decide +kernel
theorem dX9_play_27 : decode M_X9_play.2.1 27 = .ok (.aload_n 0, 1) := by decide +kernel
theorem dX9_play_28 : decode M_X9_play.2.1 28 = .ok (.getfield 10, 3) := by decide +kernel
theorem dX9_play_31 : decode M_X9_play.2.1 31 = .ok (.aload_n 0, 1) := by decide +kernel
theorem dX9_play_32 : decode M_X9_play.2.1 32 = .ok (.getfield 10, 3) := by decide +kernel
theorem dX9_play_35 : decode M_X9_play.2.1 35 = .ok (.getfield 142, 3) := by decide +kernel
theorem dX9_play_38 : decode M_X9_play.2.1 38 = .ok (.iload_n 3, 1) := by decide +kernel
theorem dX9_play_39 : decode M_X9_play.2.1 39 = .ok (.iload_n 1, 1) := by decide +kernel
theorem dX9_play_40 : decode M_X9_play.2.1 40 = .ok (.invokevirtual 148, 3) := by decide +kernel
theorem dX9_play_43 : decode M_X9_play.2.1 43 = .ok (.istore 4, 2) := by decide +kernel
theorem dX9_play_45 : decode M_X9_play.2.1 45 = .ok (.iload 4, 2) := by decide +kernel
theorem dX9_play_47 : decode M_X9_play.2.1 47 = .ok (.iconst (-1), 1) := by decide +kernel
theorem dX9_play_48 : decode M_X9_play.2.1 48 = .ok (.if_icmp .ne 41, 3) := by decide +kernel
theorem dX9_play_51 : decode M_X9_play.2.1 51 = .ok (.iload_n 1, 1) := by decide +kernel
theorem dX9_play_52 : decode M_X9_play.2.1 52 = .ok (.iconst (-1), 1) := by decide +kernel
theorem dX9_play_53 : decode M_X9_play.2.1 53 = .ok (.if_icmp .ne 14, 3) := by decide +kernel
theorem dX9_play_56 : decode M_X9_play.2.1 56 = .ok (.aload_n 0, 1) := by decide +kernel
theorem dX9_play_57 : decode M_X9_play.2.1 57 = .ok (.getfield 38, 3) := by decide +kernel
theorem dX9_play_60 : decode M_X9_play.2.1 60 = .ok (.aload_n 0, 1) := by decide +kernel
theorem dX9_play_61 : decode M_X9_play.2.1 61 = .ok (.getfield 34, 3) := by decide +kernel
theorem dX9_play_64 : decode M_X9_play.2.1 64 = .ok (.invokevirtual 152, 3) := by decide +kernel
theorem dX9_play_67 : decode M_X9_play.2.1 67 = .ok (.aload_n 0, 1) := by decide +kernel
theorem dX9_play_68 : decode M_X9_play.2.1 68 = .ok (.getfield 10, 3) := by decide +kernel
theorem dX9_play_71 : decode M_X9_play.2.1 71 = .ok (.aload_n 0, 1) := by decide +kernel
theorem dX9_play_72 : decode M_X9_play.2.1 72 = .ok (.getfield 10, 3) := by decide +kernel
theorem dX9_play_75 : decode M_X9_play.2.1 75 = .ok (.getfield 142, 3) := by decide +kernel
theorem dX9_play_78 : decode M_X9_play.2.1 78 = .ok (.iload_n 3, 1) := by decide +kernel
theorem dX9_play_79 : decode M_X9_play.2.1 79 = .ok (.iload_n 1, 1) := by decide +kernel
theorem dX9_play_80 : decode M_X9_play.2.1 80 = .ok (.aload_n 0, 1) := by decide +kernel
theorem dX9_play_81 : decode M_X9_play.2.1 81 = .ok (.getfield 38, 3) := by decide +kernel
theorem dX9_play_84 : decode M_X9_play.2.1 84 = .ok (.invokevirtual 155, 3) := by decide +kernel
theorem dX9_play_87 : decode M_X9_play.2.1 87 = .ok (.istore 4, 2) := by decide +kernel
theorem dX9_play_89 : decode M_X9_play.2.1 89 = .ok (.aload_n 0, 1) := by decide +kernel
theorem dX9_play_90 : decode M_X9_play.2.1 90 = .ok (.iload 4, 2) := by decide +kernel
theorem dX9_play_92 : decode M_X9_play.2.1 92 = .ok (.invokevirtual 125, 3) := by decide +kernel
theorem dX9_play_95 : decode M_X9_play.2.1 95 = .ok (.iconst 0, 1) := by decide +kernel
theorem dX9_play_96 : decode M_X9_play.2.1 96 = .ok (.ireturn, 1) := by decide +kernel
theorem w_X9_play {X : ZX} {d n : Nat} {P : Int → ZSto → Prop} {x1 : Int} {σ : ZSto} (hn : 73 ≤ n)  (hx1 : R32 x1)
    (h : ZkI X M_X9_statusOf d n [.ref (zB X + 0), iV x1] σ (fun v1 σ2 => (v1 = 0 → (∃ t9, gP σ2 0 0 = some t9 ∧ zIsT t9 ∧ ZkI X M_X7_turnAt d n [.ref (zB X + t9), iV (gI σ2 t9 16)] σ2 (fun v13 σ14 => (∃ t18, gP σ14 0 0 = some t18 ∧ zIsT t18 ∧ ZkI X M_X7_childOf d n [.ref (zB X + t18), iV (gI σ14 t18 16), iV v13, iV x1] σ14 (fun v22 σ23 => (¬ v22 = (-1) → ZkV X M_X9_moveTo d n [.ref (zB X + 0), iV v22] σ23 (fun σ31 => P 0 σ31)) ∧ (v22 = (-1) → (¬ x1 = (-1) → (∃ t39, gP σ23 0 0 = some t39 ∧ zIsT t39 ∧ ZkI X M_X7_addMove d n [.ref (zB X + t39), iV (gI σ23 t39 16), iV v13, iV x1, .ref (zB X + 41)] σ23 (fun v43 σ44 => ZkV X M_X9_moveTo d n [.ref (zB X + 0), iV v43] σ44 (fun σ49 => P 0 σ49)))) ∧ (x1 = (-1) → ZkV X M_X0_copyOf d n [.ref (zB X + 41), .ref (zB X + 33)] σ23 (fun σ55 => (∃ t59, gP σ55 0 0 = some t59 ∧ zIsT t59 ∧ ZkI X M_X7_addMove d n [.ref (zB X + t59), iV (gI σ55 t59 16), iV v13, iV x1, .ref (zB X + 41)] σ55 (fun v63 σ64 => ZkV X M_X9_moveTo d n [.ref (zB X + 0), iV v63] σ64 (fun σ69 => P 0 σ69))))))))))) ∧ (¬ (v1 = 0) → P v1 σ2))) :
    ZkI X M_X9_play (d + 1) n [.ref (zB X + 0), iV x1] σ P := by
  refine zk_of (ls := [some (.ref (zB X + 0)), some (iV x1), none, none, none]) pl_RX9 (Nat.le_of_ble_eq_true rfl) rfl (fun k0 => ?_)
  unfold Zn
  refine r_aload_n dX9_play_0 rfl ?_
  refine r_iload_n dX9_play_1 rfl ?_
  refine n_callV (N := M_X9_statusOf) (As := [iV x1]) (st := []) dX9_play_2 mk_X9_statusOf km_RX9_139 kd_X9_statusOf rfl (zlt hn rfl) sh_0 (q := (RX9, TX9, 14)) rfl rfl (zFits_rm d n n n (Nat.le_refl n)) (Nat.le_of_ble_eq_true rfl) rfl k0 h ?_
  rintro _ σ2 k3 ⟨v1, rfl, h4, h5⟩
  change Zm _ _ _ _ _ _ 5 _ [iV v1] _
  refine r_istore_n dX9_play_5 rfl rfl ?_
  refine r_iload_n dX9_play_6 rfl ?_
  refine r_if_eq (t := 12) dX9_play_7 rfl h4  (fun c6 => ?_) (fun c7 => ?_)
  · have h8 := h5.1 c6
    refine r_aload_n dX9_play_12 rfl ?_
    obtain ⟨t9, h10, h11, h12⟩ := h8
    refine r_getP (a := t9) dX9_play_13 kf_RX9_10 (zlt hn rfl) sh_0 rfl h10 ?_
    refine r_aload_n dX9_play_16 rfl ?_
    refine r_getP (a := t9) dX9_play_17 kf_RX9_10 (zlt hn rfl) sh_0 rfl h10 ?_
    refine r_getI dX9_play_20 kf_RX9_142 (zT_lt h11 hn) (zT_s h11) (Or.inl rfl) rfl ?_
    refine n_callV (N := M_X7_turnAt) (As := [iV (gI σ2 t9 16)]) (st := []) dX9_play_23 mk_X7_turnAt km_RX9_145 kd_X7_turnAt rfl (zT_lt h11 hn) (zT_s h11) (q := (RX7, TX7, 17)) rfl rfl (zFits_rm d n n n (Nat.le_refl n)) (Nat.le_of_ble_eq_true rfl) rfl k3 h12 ?_
    rintro _ σ14 k15 ⟨v13, rfl, h16, h17⟩
    change Zm _ _ _ _ _ _ 26 _ [iV v13] _
    refine r_istore_n dX9_play_26 rfl rfl ?_
    refine r_aload_n dX9_play_27 rfl ?_
    obtain ⟨t18, h19, h20, h21⟩ := h17
    refine r_getP (a := t18) dX9_play_28 kf_RX9_10 (zlt hn rfl) sh_0 rfl h19 ?_
    refine r_aload_n dX9_play_31 rfl ?_
    refine r_getP (a := t18) dX9_play_32 kf_RX9_10 (zlt hn rfl) sh_0 rfl h19 ?_
    refine r_getI dX9_play_35 kf_RX9_142 (zT_lt h20 hn) (zT_s h20) (Or.inl rfl) rfl ?_
    refine r_iload_n dX9_play_38 rfl ?_
    refine r_iload_n dX9_play_39 rfl ?_
    refine n_callV (N := M_X7_childOf) (As := [iV (gI σ14 t18 16), iV v13, iV x1]) (st := []) dX9_play_40 mk_X7_childOf km_RX9_148 kd_X7_childOf rfl (zT_lt h20 hn) (zT_s h20) (q := (RX7, TX7, 17)) rfl rfl (zFits_rm d n n n (Nat.le_refl n)) (Nat.le_of_ble_eq_true rfl) rfl k15 h21 ?_
    rintro _ σ23 k24 ⟨v22, rfl, h25, h26⟩
    change Zm _ _ _ _ _ _ 43 _ [iV v22] _
    refine r_istore dX9_play_43 rfl rfl ?_
    refine r_iload dX9_play_45 rfl ?_
    refine r_iconst dX9_play_47 ?_
    refine r_icmp_ne (t := 89) dX9_play_48 rfl h25 (r32c rfl) (fun c27 => ?_) (fun c28 => ?_)
    · have h29 := h26.1 c27
      refine r_aload_n dX9_play_89 rfl ?_
      refine r_iload dX9_play_90 rfl ?_
      refine n_callV (N := M_X9_moveTo) (As := [iV v22]) (st := []) dX9_play_92 mk_X9_moveTo km_RX9_125 kd_X9_moveTo rfl (zlt hn rfl) sh_0 (q := (RX9, TX9, 14)) rfl rfl (zFits_rm d n n n (Nat.le_refl n)) (Nat.le_of_ble_eq_true rfl) rfl k24 h29 ?_
      rintro _ σ31 k32 ⟨rfl, h34⟩
      change Zm _ _ _ _ _ _ 95 _ [] _
      refine r_iconst dX9_play_95 ?_
      exact r_ireturn dX9_play_96 rfl ⟨k32, _, rfl, (r32c rfl), h34⟩
    · have h35 := h26.2 c28
      refine r_iload_n dX9_play_51 rfl ?_
      refine r_iconst dX9_play_52 ?_
      refine r_icmp_ne (t := 67) dX9_play_53 rfl hx1 (r32c rfl) (fun c36 => ?_) (fun c37 => ?_)
      · have h38 := h35.1 c36
        refine r_aload_n dX9_play_67 rfl ?_
        obtain ⟨t39, h40, h41, h42⟩ := h38
        refine r_getP (a := t39) dX9_play_68 kf_RX9_10 (zlt hn rfl) sh_0 rfl h40 ?_
        refine r_aload_n dX9_play_71 rfl ?_
        refine r_getP (a := t39) dX9_play_72 kf_RX9_10 (zlt hn rfl) sh_0 rfl h40 ?_
        refine r_getI dX9_play_75 kf_RX9_142 (zT_lt h41 hn) (zT_s h41) (Or.inl rfl) rfl ?_
        refine r_iload_n dX9_play_78 rfl ?_
        refine r_iload_n dX9_play_79 rfl ?_
        refine r_aload_n dX9_play_80 rfl ?_
        refine r_getP (a := 41) dX9_play_81 kf_RX9_38 (zlt hn rfl) sh_0 rfl (k24.1 _ _ _ (zlt hn rfl) p_0_5) ?_
        refine n_callV (N := M_X7_addMove) (As := [iV (gI σ23 t39 16), iV v13, iV x1, .ref (zB X + 41)]) (st := []) dX9_play_84 mk_X7_addMove km_RX9_155 kd_X7_addMove rfl (zT_lt h41 hn) (zT_s h41) (q := (RX7, TX7, 17)) rfl rfl (zFits_rm d n n n (Nat.le_refl n)) (Nat.le_of_ble_eq_true rfl) rfl k24 h42 ?_
        rintro _ σ44 k45 ⟨v43, rfl, h46, h47⟩
        change Zm _ _ _ _ _ _ 87 _ [iV v43] _
        refine r_istore dX9_play_87 rfl rfl ?_
        refine r_aload_n dX9_play_89 rfl ?_
        refine r_iload dX9_play_90 rfl ?_
        refine n_callV (N := M_X9_moveTo) (As := [iV v43]) (st := []) dX9_play_92 mk_X9_moveTo km_RX9_125 kd_X9_moveTo rfl (zlt hn rfl) sh_0 (q := (RX9, TX9, 14)) rfl rfl (zFits_rm d n n n (Nat.le_refl n)) (Nat.le_of_ble_eq_true rfl) rfl k45 h47 ?_
        rintro _ σ49 k50 ⟨rfl, h52⟩
        change Zm _ _ _ _ _ _ 95 _ [] _
        refine r_iconst dX9_play_95 ?_
        exact r_ireturn dX9_play_96 rfl ⟨k50, _, rfl, (r32c rfl), h52⟩
      · have h53 := h35.2 c37
        refine r_aload_n dX9_play_56 rfl ?_
        refine r_getP (a := 41) dX9_play_57 kf_RX9_38 (zlt hn rfl) sh_0 rfl (k24.1 _ _ _ (zlt hn rfl) p_0_5) ?_
        refine r_aload_n dX9_play_60 rfl ?_
        refine r_getP (a := 33) dX9_play_61 kf_RX9_34 (zlt hn rfl) sh_0 rfl (k24.1 _ _ _ (zlt hn rfl) p_0_4) ?_
        refine n_callV (N := M_X0_copyOf) (As := [.ref (zB X + 33)]) (st := []) dX9_play_64 mk_X0_copyOf km_RX9_152 kd_X0_copyOf rfl (zlt hn rfl) sh_41 (q := (RX0, TX0, 13)) rfl rfl (zFits_rm d n n n (Nat.le_refl n)) (Nat.le_of_ble_eq_true rfl) rfl k24 h53 ?_
        rintro _ σ55 k56 ⟨rfl, h58⟩
        change Zm _ _ _ _ _ _ 67 _ [] _
        refine r_aload_n dX9_play_67 rfl ?_
        obtain ⟨t59, h60, h61, h62⟩ := h58
        refine r_getP (a := t59) dX9_play_68 kf_RX9_10 (zlt hn rfl) sh_0 rfl h60 ?_
        refine r_aload_n dX9_play_71 rfl ?_
        refine r_getP (a := t59) dX9_play_72 kf_RX9_10 (zlt hn rfl) sh_0 rfl h60 ?_
        refine r_getI dX9_play_75 kf_RX9_142 (zT_lt h61 hn) (zT_s h61) (Or.inl rfl) rfl ?_
        refine r_iload_n dX9_play_78 rfl ?_
        refine r_iload_n dX9_play_79 rfl ?_
        refine r_aload_n dX9_play_80 rfl ?_
        refine r_getP (a := 41) dX9_play_81 kf_RX9_38 (zlt hn rfl) sh_0 rfl (k56.1 _ _ _ (zlt hn rfl) p_0_5) ?_
        refine n_callV (N := M_X7_addMove) (As := [iV (gI σ55 t59 16), iV v13, iV x1, .ref (zB X + 41)]) (st := []) dX9_play_84 mk_X7_addMove km_RX9_155 kd_X7_addMove rfl (zT_lt h61 hn) (zT_s h61) (q := (RX7, TX7, 17)) rfl rfl (zFits_rm d n n n (Nat.le_refl n)) (Nat.le_of_ble_eq_true rfl) rfl k56 h62 ?_
        rintro _ σ64 k65 ⟨v63, rfl, h66, h67⟩
        change Zm _ _ _ _ _ _ 87 _ [iV v63] _
        refine r_istore dX9_play_87 rfl rfl ?_
        refine r_aload_n dX9_play_89 rfl ?_
        refine r_iload dX9_play_90 rfl ?_
        refine n_callV (N := M_X9_moveTo) (As := [iV v63]) (st := []) dX9_play_92 mk_X9_moveTo km_RX9_125 kd_X9_moveTo rfl (zlt hn rfl) sh_0 (q := (RX9, TX9, 14)) rfl rfl (zFits_rm d n n n (Nat.le_refl n)) (Nat.le_of_ble_eq_true rfl) rfl k65 h67 ?_
        rintro _ σ69 k70 ⟨rfl, h72⟩
        change Zm _ _ _ _ _ _ 95 _ [] _
        refine r_iconst dX9_play_95 ?_
        exact r_ireturn dX9_play_96 rfl ⟨k70, _, rfl, (r32c rfl), h72⟩
  · have h73 := h5.2 c7
    refine r_iload_n dX9_play_10 rfl ?_
    exact r_ireturn dX9_play_11 rfl ⟨k3, _, rfl, h4, h73⟩
/-! StoneRoom.back -/
theorem dX9_back_0 : decode M_X9_back.2.1 0 = .ok (.iload_n 1, 1) := by decide +kernel
theorem dX9_back_1 : decode M_X9_back.2.1 1 = .ok (.ifCond .ge 5, 3) := by decide +kernel
theorem dX9_back_4 : decode M_X9_back.2.1 4 = .ok (.iconst (-1), 1) := by decide +kernel
theorem dX9_back_5 : decode M_X9_back.2.1 5 = .ok (.ireturn, 1) := by decide +kernel
theorem dX9_back_6 : decode M_X9_back.2.1 6 = .ok (.aload_n 0, 1) := by decide +kernel
theorem dX9_back_7 : decode M_X9_back.2.1 7 = .ok (.getfield 10, 3) := by decide +kernel
theorem dX9_back_10 : decode M_X9_back.2.1 10 = .ok (.getfield 142, 3) := by decide +kernel
theorem dX9_back_13 : decode M_X9_back.2.1 13 = .ok (.istore_n 2, 1) := by decide +kernel
theorem dX9_back_14 : decode M_X9_back.2.1 14 = .ok (.iconst 0, 1) := by decide +kernel
theorem dX9_back_15 : decode M_X9_back.2.1 15 = .ok (.istore_n 3, 1) := by decide +kernel
theorem dX9_back_16 : decode M_X9_back.2.1 16 = .ok (.iload_n 3, 1) := by decide +kernel
theorem dX9_back_17 : decode M_X9_back.2.1 17 = .ok (.iload_n 1, 1) := by decide +kernel
theorem dX9_back_18 : decode M_X9_back.2.1 18 = .ok (.if_icmp .ge 37, 3) := by decide +kernel
theorem dX9_back_21 : decode M_X9_back.2.1 21 = .ok (.iload_n 3, 1) := by decide +kernel
theorem dX9_back_22 : decode M_X9_back.2.1 22 = .ok (.sipush 250, 3) := by decide +kernel
theorem dX9_back_25 : decode M_X9_back.2.1 25 = .ok (.if_icmp .ge 30, 3) := by decide +kernel
theorem dX9_back_28 : decode M_X9_back.2.1 28 = .ok (.aload_n 0, 1) := by decide +kernel
theorem dX9_back_29 : decode M_X9_back.2.1 29 = .ok (.getfield 10, 3) := by decide +kernel
theorem dX9_back_32 : decode M_X9_back.2.1 32 = .ok (.iload_n 2, 1) := by decide +kernel
theorem dX9_back_33 : decode M_X9_back.2.1 33 = .ok (.invokevirtual 159, 3) := by decide +kernel
theorem dX9_back_36 : decode M_X9_back.2.1 36 = .ok (.iconst (-1), 1) := by decide +kernel
theorem dX9_back_37 : decode M_X9_back.2.1 37 = .ok (.if_icmp .eq 18, 3) := by decide +kernel
theorem dX9_back_40 : decode M_X9_back.2.1 40 = .ok (.aload_n 0, 1) := by decide +kernel
theorem dX9_back_41 : decode M_X9_back.2.1 41 = .ok (.getfield 10, 3) := by decide +kernel
theorem dX9_back_44 : decode M_X9_back.2.1 44 = .ok (.iload_n 2, 1) := by decide +kernel
theorem dX9_back_45 : decode M_X9_back.2.1 45 = .ok (.invokevirtual 159, 3) := by decide +kernel
theorem dX9_back_48 : decode M_X9_back.2.1 48 = .ok (.istore_n 2, 1) := by decide +kernel
theorem dX9_back_49 : decode M_X9_back.2.1 49 = .ok (.iinc 3 1, 3) := by decide +kernel
theorem dX9_back_52 : decode M_X9_back.2.1 52 = .ok (.goto (-36), 3) := by decide +kernel
theorem dX9_back_55 : decode M_X9_back.2.1 55 = .ok (.iload_n 3, 1) := by decide +kernel
theorem dX9_back_56 : decode M_X9_back.2.1 56 = .ok (.ifCond .le 8, 3) := by decide +kernel
theorem dX9_back_59 : decode M_X9_back.2.1 59 = .ok (.aload_n 0, 1) := by decide +kernel
theorem dX9_back_60 : decode M_X9_back.2.1 60 = .ok (.iload_n 2, 1) := by decide +kernel
theorem dX9_back_61 : decode M_X9_back.2.1 61 = .ok (.invokevirtual 125, 3) := by decide +kernel
theorem dX9_back_64 : decode M_X9_back.2.1 64 = .ok (.iload_n 3, 1) := by decide +kernel
theorem dX9_back_65 : decode M_X9_back.2.1 65 = .ok (.ireturn, 1) := by decide +kernel
def L_X9_back_16 (X : ZX) (d n : Nat) (P : Option Value → ZSto → Prop) (x1 : Int) (x2 : Int) (x3 : Int) (σ : ZSto) : Prop := R32 x1 → R32 x2 → R32 x3 → ZOk n σ → Zn X M_X9_back d n P 16 [some (.ref (zB X + 0)), some (iV x1), some (iV x2), some (iV x3)] [] σ
theorem w_X9_back {X : ZX} {d n : Nat} {P : Int → ZSto → Prop} {x1 : Int} {σ : ZSto} (hn : 73 ≤ n)  (hx1 : R32 x1)
    (h : (0 ≤ x1 → (∃ t4, gP σ 0 0 = some t4 ∧ zIsT t4 ∧ (∀ y8 : Int, y8 = gI σ t4 16 → L_X9_back_16 X d n (zpI P) x1 y8 0 σ))) ∧ (¬ (0 ≤ x1) → P ((-1)) σ)) :
    ZkI X M_X9_back (d + 1) n [.ref (zB X + 0), iV x1] σ P := by
  refine zk_of (ls := [some (.ref (zB X + 0)), some (iV x1), none, none]) pl_RX9 (Nat.le_of_ble_eq_true rfl) rfl (fun k0 => ?_)
  unfold Zn
  refine r_iload_n dX9_back_0 rfl ?_
  refine r_if_ge (t := 6) dX9_back_1 rfl hx1  (fun c1 => ?_) (fun c2 => ?_)
  · have h3 := h.1 c1
    refine r_aload_n dX9_back_6 rfl ?_
    obtain ⟨t4, h5, h6, h7⟩ := h3
    refine r_getP (a := t4) dX9_back_7 kf_RX9_10 (zlt hn rfl) sh_0 rfl h5 ?_
    refine r_getI dX9_back_10 kf_RX9_142 (zT_lt h6 hn) (zT_s h6) (Or.inl rfl) rfl ?_
    refine r_name (fun y8 e9 => ?_)
    have h10 := h7 y8 e9
    refine r_istore_n dX9_back_13 rfl rfl ?_
    refine r_iconst dX9_back_14 ?_
    refine r_istore_n dX9_back_15 rfl rfl ?_
    exact r_mask [true, true, true, true] rfl (h10 hx1 (by rw [e9]; exact (k0.2.1 _ _)) (r32c rfl) k0)
  · have h11 := h.2 c2
    refine r_iconst dX9_back_4 ?_
    exact r_ireturn dX9_back_5 rfl ⟨k0, _, rfl, (r32c rfl), h11⟩
theorem b_X9_back_16 {X : ZX} {d n : Nat} {P : Int → ZSto → Prop} {x1 : Int} {x2 : Int} {x3 : Int} {σ : ZSto} (hn : 73 ≤ n) 
    (h : (x1 ≤ x3 → (x3 ≤ 0 → P x3 σ) ∧ (¬ (x3 ≤ 0) → ZkV X M_X9_moveTo d n [.ref (zB X + 0), iV x2] σ (fun σ9 => P x3 σ9))) ∧ (¬ (x1 ≤ x3) → (250 ≤ x3 → (x3 ≤ 0 → P x3 σ) ∧ (¬ (x3 ≤ 0) → ZkV X M_X9_moveTo d n [.ref (zB X + 0), iV x2] σ (fun σ22 => P x3 σ22))) ∧ (¬ (250 ≤ x3) → (∃ t27, gP σ 0 0 = some t27 ∧ zIsT t27 ∧ ZkI X M_X7_parentOf d n [.ref (zB X + t27), iV x2] σ (fun v31 σ32 => (v31 = (-1) → (x3 ≤ 0 → P x3 σ32) ∧ (¬ (x3 ≤ 0) → ZkV X M_X9_moveTo d n [.ref (zB X + 0), iV x2] σ32 (fun σ44 => P x3 σ44))) ∧ (¬ (v31 = (-1)) → (∃ t49, gP σ32 0 0 = some t49 ∧ zIsT t49 ∧ ZkI X M_X7_parentOf d n [.ref (zB X + t49), iV x2] σ32 (fun v53 σ54 => R32 (x3 + 1) ∧ L_X9_back_16 X d n (zpI P) x1 v53 (x3 + 1) σ54)))))))) :
    L_X9_back_16 X d n (zpI P) x1 x2 x3 σ := by
  intro hx1 hx2 hx3 k0
  unfold Zn
  refine r_iload_n dX9_back_16 rfl ?_
  refine r_iload_n dX9_back_17 rfl ?_
  refine r_icmp_ge (t := 55) dX9_back_18 rfl hx3 hx1 (fun c1 => ?_) (fun c2 => ?_)
  · have h3 := h.1 c1
    refine r_iload_n dX9_back_55 rfl ?_
    refine r_if_le (t := 64) dX9_back_56 rfl hx3  (fun c4 => ?_) (fun c5 => ?_)
    · have h6 := h3.1 c4
      refine r_iload_n dX9_back_64 rfl ?_
      exact r_ireturn dX9_back_65 rfl ⟨k0, _, rfl, hx3, h6⟩
    · have h7 := h3.2 c5
      refine r_aload_n dX9_back_59 rfl ?_
      refine r_iload_n dX9_back_60 rfl ?_
      refine n_callV (N := M_X9_moveTo) (As := [iV x2]) (st := []) dX9_back_61 mk_X9_moveTo km_RX9_125 kd_X9_moveTo rfl (zlt hn rfl) sh_0 (q := (RX9, TX9, 14)) rfl rfl (zFits_rm d n n n (Nat.le_refl n)) (Nat.le_of_ble_eq_true rfl) rfl k0 h7 ?_
      rintro _ σ9 k10 ⟨rfl, h12⟩
      change Zm _ _ _ _ _ _ 64 _ [] _
      refine r_iload_n dX9_back_64 rfl ?_
      exact r_ireturn dX9_back_65 rfl ⟨k10, _, rfl, hx3, h12⟩
  · have h13 := h.2 c2
    refine r_iload_n dX9_back_21 rfl ?_
    refine r_sipush dX9_back_22 rfl ?_
    refine r_icmp_ge (t := 55) dX9_back_25 rfl hx3 (r32c rfl) (fun c14 => ?_) (fun c15 => ?_)
    · have h16 := h13.1 c14
      refine r_iload_n dX9_back_55 rfl ?_
      refine r_if_le (t := 64) dX9_back_56 rfl hx3  (fun c17 => ?_) (fun c18 => ?_)
      · have h19 := h16.1 c17
        refine r_iload_n dX9_back_64 rfl ?_
        exact r_ireturn dX9_back_65 rfl ⟨k0, _, rfl, hx3, h19⟩
      · have h20 := h16.2 c18
        refine r_aload_n dX9_back_59 rfl ?_
        refine r_iload_n dX9_back_60 rfl ?_
        refine n_callV (N := M_X9_moveTo) (As := [iV x2]) (st := []) dX9_back_61 mk_X9_moveTo km_RX9_125 kd_X9_moveTo rfl (zlt hn rfl) sh_0 (q := (RX9, TX9, 14)) rfl rfl (zFits_rm d n n n (Nat.le_refl n)) (Nat.le_of_ble_eq_true rfl) rfl k0 h20 ?_
        rintro _ σ22 k23 ⟨rfl, h25⟩
        change Zm _ _ _ _ _ _ 64 _ [] _
        refine r_iload_n dX9_back_64 rfl ?_
        exact r_ireturn dX9_back_65 rfl ⟨k23, _, rfl, hx3, h25⟩
    · have h26 := h13.2 c15
      refine r_aload_n dX9_back_28 rfl ?_
      obtain ⟨t27, h28, h29, h30⟩ := h26
      refine r_getP (a := t27) dX9_back_29 kf_RX9_10 (zlt hn rfl) sh_0 rfl h28 ?_
      refine r_iload_n dX9_back_32 rfl ?_
      refine n_callV (N := M_X7_parentOf) (As := [iV x2]) (st := []) dX9_back_33 mk_X7_parentOf km_RX9_159 kd_X7_parentOf rfl (zT_lt h29 hn) (zT_s h29) (q := (RX7, TX7, 17)) rfl rfl (zFits_rm d n n n (Nat.le_refl n)) (Nat.le_of_ble_eq_true rfl) rfl k0 h30 ?_
      rintro _ σ32 k33 ⟨v31, rfl, h34, h35⟩
      change Zm _ _ _ _ _ _ 36 _ [iV v31] _
      refine r_iconst dX9_back_36 ?_
      refine r_icmp_eq (t := 55) dX9_back_37 rfl h34 (r32c rfl) (fun c36 => ?_) (fun c37 => ?_)
      · have h38 := h35.1 c36
        refine r_iload_n dX9_back_55 rfl ?_
        refine r_if_le (t := 64) dX9_back_56 rfl hx3  (fun c39 => ?_) (fun c40 => ?_)
        · have h41 := h38.1 c39
          refine r_iload_n dX9_back_64 rfl ?_
          exact r_ireturn dX9_back_65 rfl ⟨k33, _, rfl, hx3, h41⟩
        · have h42 := h38.2 c40
          refine r_aload_n dX9_back_59 rfl ?_
          refine r_iload_n dX9_back_60 rfl ?_
          refine n_callV (N := M_X9_moveTo) (As := [iV x2]) (st := []) dX9_back_61 mk_X9_moveTo km_RX9_125 kd_X9_moveTo rfl (zlt hn rfl) sh_0 (q := (RX9, TX9, 14)) rfl rfl (zFits_rm d n n n (Nat.le_refl n)) (Nat.le_of_ble_eq_true rfl) rfl k33 h42 ?_
          rintro _ σ44 k45 ⟨rfl, h47⟩
          change Zm _ _ _ _ _ _ 64 _ [] _
          refine r_iload_n dX9_back_64 rfl ?_
          exact r_ireturn dX9_back_65 rfl ⟨k45, _, rfl, hx3, h47⟩
      · have h48 := h35.2 c37
        refine r_aload_n dX9_back_40 rfl ?_
        obtain ⟨t49, h50, h51, h52⟩ := h48
        refine r_getP (a := t49) dX9_back_41 kf_RX9_10 (zlt hn rfl) sh_0 rfl h50 ?_
        refine r_iload_n dX9_back_44 rfl ?_
        refine n_callV (N := M_X7_parentOf) (As := [iV x2]) (st := []) dX9_back_45 mk_X7_parentOf km_RX9_159 kd_X7_parentOf rfl (zT_lt h51 hn) (zT_s h51) (q := (RX7, TX7, 17)) rfl rfl (zFits_rm d n n n (Nat.le_refl n)) (Nat.le_of_ble_eq_true rfl) rfl k33 h52 ?_
        rintro _ σ54 k55 ⟨v53, rfl, h56, h57⟩
        change Zm _ _ _ _ _ _ 48 _ [iV v53] _
        refine r_istore_n dX9_back_48 rfl rfl ?_
        refine r_iinc dX9_back_49 rfl rfl rfl ?_
        refine r_goto (t := 16) dX9_back_52 rfl ?_
        obtain ⟨h58, h59⟩ := h57
        exact r_mask [true, true, true, true] rfl (h59 hx1 h56 h58 k55)
/-! StoneRoom.on -/
theorem dX9_on_0 : decode M_X9_on.2.1 0 = .ok (.aload_n 0, 1) := by decide +kernel
theorem dX9_on_1 : decode M_X9_on.2.1 1 = .ok (.getfield 10, 3) := by decide +kernel
theorem dX9_on_4 : decode M_X9_on.2.1 4 = .ok (.aload_n 0, 1) := by decide +kernel
theorem dX9_on_5 : decode M_X9_on.2.1 5 = .ok (.getfield 10, 3) := by decide +kernel
theorem dX9_on_8 : decode M_X9_on.2.1 8 = .ok (.getfield 142, 3) := by decide +kernel
theorem dX9_on_11 : decode M_X9_on.2.1 11 = .ok (.iload_n 1, 1) := by decide +kernel
theorem dX9_on_12 : decode M_X9_on.2.1 12 = .ok (.invokevirtual 162, 3) := by decide +kernel
theorem dX9_on_15 : decode M_X9_on.2.1 15 = .ok (.istore_n 2, 1) := by decide +kernel
theorem dX9_on_16 : decode M_X9_on.2.1 16 = .ok (.iload_n 2, 1) := by decide +kernel
theorem dX9_on_17 : decode M_X9_on.2.1 17 = .ok (.iconst (-1), 1) := by decide +kernel
theorem dX9_on_18 : decode M_X9_on.2.1 18 = .ok (.if_icmp .ne 5, 3) := by decide +kernel
theorem dX9_on_21 : decode M_X9_on.2.1 21 = .ok (.iconst 0, 1) := by decide +kernel
theorem dX9_on_22 : decode M_X9_on.2.1 22 = .ok (.ireturn, 1) := by decide +kernel
theorem dX9_on_23 : decode M_X9_on.2.1 23 = .ok (.aload_n 0, 1) := by decide +kernel
theorem dX9_on_24 : decode M_X9_on.2.1 24 = .ok (.iload_n 2, 1) := by decide +kernel
theorem dX9_on_25 : decode M_X9_on.2.1 25 = .ok (.invokevirtual 125, 3) := by decide +kernel
theorem dX9_on_28 : decode M_X9_on.2.1 28 = .ok (.iconst 1, 1) := by decide +kernel
theorem dX9_on_29 : decode M_X9_on.2.1 29 = .ok (.ireturn, 1) := by decide +kernel
theorem w_X9_on {X : ZX} {d n : Nat} {P : Int → ZSto → Prop} {x1 : Int} {σ : ZSto} (hn : 73 ≤ n)  (hx1 : R32 x1)
    (h : (∃ t1, gP σ 0 0 = some t1 ∧ zIsT t1 ∧ ZkI X M_X7_nthChild d n [.ref (zB X + t1), iV (gI σ t1 16), iV x1] σ (fun v5 σ6 => (¬ v5 = (-1) → ZkV X M_X9_moveTo d n [.ref (zB X + 0), iV v5] σ6 (fun σ14 => P 1 σ14)) ∧ (v5 = (-1) → P 0 σ6)))) :
    ZkZ X M_X9_on (d + 1) n [.ref (zB X + 0), iV x1] σ P := by
  refine zk_of (ls := [some (.ref (zB X + 0)), some (iV x1), none]) pl_RX9 (Nat.le_of_ble_eq_true rfl) rfl (fun k0 => ?_)
  unfold Zn
  refine r_aload_n dX9_on_0 rfl ?_
  obtain ⟨t1, h2, h3, h4⟩ := h
  refine r_getP (a := t1) dX9_on_1 kf_RX9_10 (zlt hn rfl) sh_0 rfl h2 ?_
  refine r_aload_n dX9_on_4 rfl ?_
  refine r_getP (a := t1) dX9_on_5 kf_RX9_10 (zlt hn rfl) sh_0 rfl h2 ?_
  refine r_getI dX9_on_8 kf_RX9_142 (zT_lt h3 hn) (zT_s h3) (Or.inl rfl) rfl ?_
  refine r_iload_n dX9_on_11 rfl ?_
  refine n_callV (N := M_X7_nthChild) (As := [iV (gI σ t1 16), iV x1]) (st := []) dX9_on_12 mk_X7_nthChild km_RX9_162 kd_X7_nthChild rfl (zT_lt h3 hn) (zT_s h3) (q := (RX7, TX7, 17)) rfl rfl (zFits_rm d n n n (Nat.le_refl n)) (Nat.le_of_ble_eq_true rfl) rfl k0 h4 ?_
  rintro _ σ6 k7 ⟨v5, rfl, h8, h9⟩
  change Zm _ _ _ _ _ _ 15 _ [iV v5] _
  refine r_istore_n dX9_on_15 rfl rfl ?_
  refine r_iload_n dX9_on_16 rfl ?_
  refine r_iconst dX9_on_17 ?_
  refine r_icmp_ne (t := 23) dX9_on_18 rfl h8 (r32c rfl) (fun c10 => ?_) (fun c11 => ?_)
  · have h12 := h9.1 c10
    refine r_aload_n dX9_on_23 rfl ?_
    refine r_iload_n dX9_on_24 rfl ?_
    refine n_callV (N := M_X9_moveTo) (As := [iV v5]) (st := []) dX9_on_25 mk_X9_moveTo km_RX9_125 kd_X9_moveTo rfl (zlt hn rfl) sh_0 (q := (RX9, TX9, 14)) rfl rfl (zFits_rm d n n n (Nat.le_refl n)) (Nat.le_of_ble_eq_true rfl) rfl k7 h12 ?_
    rintro _ σ14 k15 ⟨rfl, h17⟩
    change Zm _ _ _ _ _ _ 28 _ [] _
    refine r_iconst dX9_on_28 ?_
    exact r_zreturn dX9_on_29 rfl (Or.inr rfl) ⟨k15, _, rfl, (Or.inr rfl), h17⟩
  · have h18 := h9.2 c11
    refine r_iconst dX9_on_21 ?_
    exact r_zreturn dX9_on_22 rfl (Or.inl rfl) ⟨k7, _, rfl, (Or.inl rfl), h18⟩
/-! StoneRoom.to -/
theorem dX9_to_0 : decode M_X9_to.2.1 0 = .ok (.aload_n 0, 1) := by decide +kernel
theorem dX9_to_1 : decode M_X9_to.2.1 1 = .ok (.getfield 10, 3) := by decide +kernel
theorem dX9_to_4 : decode M_X9_to.2.1 4 = .ok (.iload_n 1, 1) := by decide +kernel
theorem dX9_to_5 : decode M_X9_to.2.1 5 = .ok (.invokevirtual 166, 3) := by decide +kernel
theorem dX9_to_8 : decode M_X9_to.2.1 8 = .ok (.ifCond .ne 5, 3) := by decide +kernel
theorem dX9_to_11 : decode M_X9_to.2.1 11 = .ok (.iconst 0, 1) := by decide +kernel
theorem dX9_to_12 : decode M_X9_to.2.1 12 = .ok (.ireturn, 1) := by decide +kernel
theorem dX9_to_13 : decode M_X9_to.2.1 13 = .ok (.aload_n 0, 1) := by decide +kernel
theorem dX9_to_14 : decode M_X9_to.2.1 14 = .ok (.iload_n 1, 1) := by decide +kernel
theorem dX9_to_15 : decode M_X9_to.2.1 15 = .ok (.invokevirtual 125, 3) := by decide +kernel
theorem dX9_to_18 : decode M_X9_to.2.1 18 = .ok (.iconst 1, 1) := by decide +kernel
theorem dX9_to_19 : decode M_X9_to.2.1 19 = .ok (.ireturn, 1) := by decide +kernel
theorem w_X9_to {X : ZX} {d n : Nat} {P : Int → ZSto → Prop} {x1 : Int} {σ : ZSto} (hn : 73 ≤ n)  (hx1 : R32 x1)
    (h : (∃ t1, gP σ 0 0 = some t1 ∧ zIsT t1 ∧ ZkZ X M_X7_has d n [.ref (zB X + t1), iV x1] σ (fun v5 σ6 => (¬ v5 = 0 → ZkV X M_X9_moveTo d n [.ref (zB X + 0), iV x1] σ6 (fun σ14 => P 1 σ14)) ∧ (v5 = 0 → P 0 σ6)))) :
    ZkZ X M_X9_to (d + 1) n [.ref (zB X + 0), iV x1] σ P := by
  refine zk_of (ls := [some (.ref (zB X + 0)), some (iV x1)]) pl_RX9 (Nat.le_of_ble_eq_true rfl) rfl (fun k0 => ?_)
  unfold Zn
  refine r_aload_n dX9_to_0 rfl ?_
  obtain ⟨t1, h2, h3, h4⟩ := h
  refine r_getP (a := t1) dX9_to_1 kf_RX9_10 (zlt hn rfl) sh_0 rfl h2 ?_
  refine r_iload_n dX9_to_4 rfl ?_
  refine n_callV (N := M_X7_has) (As := [iV x1]) (st := []) dX9_to_5 mk_X7_has km_RX9_166 kd_X7_has rfl (zT_lt h3 hn) (zT_s h3) (q := (RX7, TX7, 17)) rfl rfl (zFits_rm d n n n (Nat.le_refl n)) (Nat.le_of_ble_eq_true rfl) rfl k0 h4 ?_
  rintro _ σ6 k7 ⟨v5, rfl, h8, h9⟩
  change Zm _ _ _ _ _ _ 8 _ [iV v5] _
  refine r_if_ne (t := 13) dX9_to_8 rfl (r32_z h8)  (fun c10 => ?_) (fun c11 => ?_)
  · have h12 := h9.1 c10
    refine r_aload_n dX9_to_13 rfl ?_
    refine r_iload_n dX9_to_14 rfl ?_
    refine n_callV (N := M_X9_moveTo) (As := [iV x1]) (st := []) dX9_to_15 mk_X9_moveTo km_RX9_125 kd_X9_moveTo rfl (zlt hn rfl) sh_0 (q := (RX9, TX9, 14)) rfl rfl (zFits_rm d n n n (Nat.le_refl n)) (Nat.le_of_ble_eq_true rfl) rfl k7 h12 ?_
    rintro _ σ14 k15 ⟨rfl, h17⟩
    change Zm _ _ _ _ _ _ 18 _ [] _
    refine r_iconst dX9_to_18 ?_
    exact r_zreturn dX9_to_19 rfl (Or.inr rfl) ⟨k15, _, rfl, (Or.inr rfl), h17⟩
  · have h18 := h9.2 c11
    refine r_iconst dX9_to_11 ?_
    exact r_zreturn dX9_to_12 rfl (Or.inl rfl) ⟨k7, _, rfl, (Or.inl rfl), h18⟩
/-! StoneRoom.node -/
theorem dX9_node_0 : decode M_X9_node.2.1 0 = .ok (.aload_n 0, 1) := by decide +kernel
theorem dX9_node_1 : decode M_X9_node.2.1 1 = .ok (.getfield 10, 3) := by decide +kernel
theorem dX9_node_4 : decode M_X9_node.2.1 4 = .ok (.iload_n 1, 1) := by decide +kernel
theorem dX9_node_5 : decode M_X9_node.2.1 5 = .ok (.iload_n 2, 1) := by decide +kernel
theorem dX9_node_6 : decode M_X9_node.2.1 6 = .ok (.invokevirtual 169, 3) := by decide +kernel
theorem dX9_node_9 : decode M_X9_node.2.1 9 = .ok (.ireturn, 1) := by decide +kernel
theorem w_X9_node {X : ZX} {d n : Nat} {P : Int → ZSto → Prop} {x1 : Int} {x2 : Int} {σ : ZSto} (hn : 73 ≤ n)  (hx1 : R32 x1) (hx2 : R32 x2)
    (h : (∃ t1, gP σ 0 0 = some t1 ∧ zIsT t1 ∧ ZkI X M_X7_tell d n [.ref (zB X + t1), iV x1, iV x2] σ (fun v5 σ6 => P v5 σ6))) :
    ZkI X M_X9_node (d + 1) n [.ref (zB X + 0), iV x1, iV x2] σ P := by
  refine zk_of (ls := [some (.ref (zB X + 0)), some (iV x1), some (iV x2)]) pl_RX9 (Nat.le_of_ble_eq_true rfl) rfl (fun k0 => ?_)
  unfold Zn
  refine r_aload_n dX9_node_0 rfl ?_
  obtain ⟨t1, h2, h3, h4⟩ := h
  refine r_getP (a := t1) dX9_node_1 kf_RX9_10 (zlt hn rfl) sh_0 rfl h2 ?_
  refine r_iload_n dX9_node_4 rfl ?_
  refine r_iload_n dX9_node_5 rfl ?_
  refine n_callV (N := M_X7_tell) (As := [iV x1, iV x2]) (st := []) dX9_node_6 mk_X7_tell km_RX9_169 kd_X7_tell rfl (zT_lt h3 hn) (zT_s h3) (q := (RX7, TX7, 17)) rfl rfl (zFits_rm d n n n (Nat.le_refl n)) (Nat.le_of_ble_eq_true rfl) rfl k0 h4 ?_
  rintro _ σ6 k7 ⟨v5, rfl, h8, h9⟩
  change Zm _ _ _ _ _ _ 9 _ [iV v5] _
  exact r_ireturn dX9_node_9 rfl ⟨k7, _, rfl, h8, h9⟩
/-! StoneRoom.at -/
theorem dX9_at_0 : decode M_X9_at.2.1 0 = .ok (.aload_n 0, 1) := by decide +kernel
theorem dX9_at_1 : decode M_X9_at.2.1 1 = .ok (.getfield 34, 3) := by decide +kernel
theorem dX9_at_4 : decode M_X9_at.2.1 4 = .ok (.iload_n 1, 1) := by decide +kernel
theorem dX9_at_5 : decode M_X9_at.2.1 5 = .ok (.invokevirtual 172, 3) := by decide +kernel
theorem dX9_at_8 : decode M_X9_at.2.1 8 = .ok (.ireturn, 1) := by decide +kernel
theorem w_X9_at {X : ZX} {d n : Nat} {P : Int → ZSto → Prop} {x1 : Int} {σ : ZSto} (hn : 73 ≤ n)  (hx1 : R32 x1)
    (h : ZkI X M_X0_contentOf d n [.ref (zB X + 33), iV x1] σ (fun v1 σ2 => P v1 σ2)) :
    ZkI X M_X9_at (d + 1) n [.ref (zB X + 0), iV x1] σ P := by
  refine zk_of (ls := [some (.ref (zB X + 0)), some (iV x1)]) pl_RX9 (Nat.le_of_ble_eq_true rfl) rfl (fun k0 => ?_)
  unfold Zn
  refine r_aload_n dX9_at_0 rfl ?_
  refine r_getP (a := 33) dX9_at_1 kf_RX9_34 (zlt hn rfl) sh_0 rfl (k0.1 _ _ _ (zlt hn rfl) p_0_4) ?_
  refine r_iload_n dX9_at_4 rfl ?_
  refine n_callV (N := M_X0_contentOf) (As := [iV x1]) (st := []) dX9_at_5 mk_X0_contentOf km_RX9_172 kd_X0_contentOf rfl (zlt hn rfl) sh_33 (q := (RX0, TX0, 13)) rfl rfl (zFits_rm d n n n (Nat.le_refl n)) (Nat.le_of_ble_eq_true rfl) rfl k0 h ?_
  rintro _ σ2 k3 ⟨v1, rfl, h4, h5⟩
  change Zm _ _ _ _ _ _ 8 _ [iV v1] _
  exact r_ireturn dX9_at_8 rfl ⟨k3, _, rfl, h4, h5⟩
/-! StoneRoom.chain -/
theorem dX9_chain_0 : decode M_X9_chain.2.1 0 = .ok (.aload_n 0, 1) := by decide +kernel
theorem dX9_chain_1 : decode M_X9_chain.2.1 1 = .ok (.getfield 34, 3) := by decide +kernel
theorem dX9_chain_4 : decode M_X9_chain.2.1 4 = .ok (.iload_n 1, 1) := by decide +kernel
theorem dX9_chain_5 : decode M_X9_chain.2.1 5 = .ok (.invokevirtual 175, 3) := by decide +kernel
theorem dX9_chain_8 : decode M_X9_chain.2.1 8 = .ok (.ifCond .ne 5, 3) := by decide +kernel
theorem dX9_chain_11 : decode M_X9_chain.2.1 11 = .ok (.iconst (-1), 1) := by decide +kernel
theorem dX9_chain_12 : decode M_X9_chain.2.1 12 = .ok (.ireturn, 1) := by decide +kernel
theorem dX9_chain_13 : decode M_X9_chain.2.1 13 = .ok (.aload_n 0, 1) := by decide +kernel
theorem dX9_chain_14 : decode M_X9_chain.2.1 14 = .ok (.getfield 34, 3) := by decide +kernel
theorem dX9_chain_17 : decode M_X9_chain.2.1 17 = .ok (.iload_n 1, 1) := by decide +kernel
theorem dX9_chain_18 : decode M_X9_chain.2.1 18 = .ok (.invokevirtual 178, 3) := by decide +kernel
theorem dX9_chain_21 : decode M_X9_chain.2.1 21 = .ok (.iload_n 2, 1) := by decide +kernel
theorem dX9_chain_22 : decode M_X9_chain.2.1 22 = .ok (.tableswitch 92 0 4 #[34, 42, 50, 58, 75], 34) := by decide +kernel
theorem dX9_chain_56 : decode M_X9_chain.2.1 56 = .ok (.aload_n 0, 1) := by decide +kernel
theorem dX9_chain_57 : decode M_X9_chain.2.1 57 = .ok (.getfield 34, 3) := by decide +kernel
theorem dX9_chain_60 : decode M_X9_chain.2.1 60 = .ok (.invokevirtual 181, 3) := by decide +kernel
theorem dX9_chain_63 : decode M_X9_chain.2.1 63 = .ok (.ireturn, 1) := by decide +kernel
theorem dX9_chain_64 : decode M_X9_chain.2.1 64 = .ok (.aload_n 0, 1) := by decide +kernel
theorem dX9_chain_65 : decode M_X9_chain.2.1 65 = .ok (.getfield 34, 3) := by decide +kernel
theorem dX9_chain_68 : decode M_X9_chain.2.1 68 = .ok (.getfield 185, 3) := by decide +kernel
theorem dX9_chain_71 : decode M_X9_chain.2.1 71 = .ok (.ireturn, 1) := by decide +kernel
theorem dX9_chain_72 : decode M_X9_chain.2.1 72 = .ok (.aload_n 0, 1) := by decide +kernel
theorem dX9_chain_73 : decode M_X9_chain.2.1 73 = .ok (.getfield 34, 3) := by decide +kernel
theorem dX9_chain_76 : decode M_X9_chain.2.1 76 = .ok (.invokevirtual 188, 3) := by decide +kernel
theorem dX9_chain_79 : decode M_X9_chain.2.1 79 = .ok (.ireturn, 1) := by decide +kernel
theorem dX9_chain_80 : decode M_X9_chain.2.1 80 = .ok (.aload_n 0, 1) := by decide +kernel
theorem dX9_chain_81 : decode M_X9_chain.2.1 81 = .ok (.getfield 64, 3) := by decide +kernel
theorem dX9_chain_84 : decode M_X9_chain.2.1 84 = .ok (.iload_n 1, 1) := by decide +kernel
theorem dX9_chain_85 : decode M_X9_chain.2.1 85 = .ok (.invokevirtual 191, 3) := by decide +kernel
theorem dX9_chain_88 : decode M_X9_chain.2.1 88 = .ok (.ifCond .eq 7, 3) := by decide +kernel
theorem dX9_chain_91 : decode M_X9_chain.2.1 91 = .ok (.iconst 1, 1) := by decide +kernel
theorem dX9_chain_92 : decode M_X9_chain.2.1 92 = .ok (.goto 4, 3) := by decide +kernel
theorem dX9_chain_95 : decode M_X9_chain.2.1 95 = .ok (.iconst 0, 1) := by decide +kernel
theorem dX9_chain_96 : decode M_X9_chain.2.1 96 = .ok (.ireturn, 1) := by decide +kernel
theorem dX9_chain_97 : decode M_X9_chain.2.1 97 = .ok (.aload_n 0, 1) := by decide +kernel
theorem dX9_chain_98 : decode M_X9_chain.2.1 98 = .ok (.getfield 80, 3) := by decide +kernel
theorem dX9_chain_101 : decode M_X9_chain.2.1 101 = .ok (.iload_n 1, 1) := by decide +kernel
theorem dX9_chain_102 : decode M_X9_chain.2.1 102 = .ok (.invokevirtual 194, 3) := by decide +kernel
theorem dX9_chain_105 : decode M_X9_chain.2.1 105 = .ok (.ifCond .eq 7, 3) := by decide +kernel
theorem dX9_chain_108 : decode M_X9_chain.2.1 108 = .ok (.iconst 1, 1) := by decide +kernel
theorem dX9_chain_109 : decode M_X9_chain.2.1 109 = .ok (.goto 4, 3) := by decide +kernel
theorem dX9_chain_112 : decode M_X9_chain.2.1 112 = .ok (.iconst 0, 1) := by decide +kernel
theorem dX9_chain_113 : decode M_X9_chain.2.1 113 = .ok (.ireturn, 1) := by decide +kernel
theorem dX9_chain_114 : decode M_X9_chain.2.1 114 = .ok (.iconst (-1), 1) := by decide +kernel
theorem dX9_chain_115 : decode M_X9_chain.2.1 115 = .ok (.ireturn, 1) := by decide +kernel
theorem w_X9_chain {X : ZX} {d n : Nat} {P : Int → ZSto → Prop} {x1 : Int} {x2 : Int} {σ : ZSto} (hn : 73 ≤ n)  (hx1 : R32 x1) (hx2 : R32 x2)
    (h : ZkZ X M_X0_hasStone d n [.ref (zB X + 33), iV x1] σ (fun v1 σ2 => (¬ v1 = 0 → ZkV X M_X0_gatherChain d n [.ref (zB X + 33), iV x1] σ2 (fun σ10 => (x2 = 0 → ZkI X M_X0_leastGathered d n [.ref (zB X + 33)] σ10 (fun v16 σ17 => P v16 σ17)) ∧ (x2 = 1 → P (gI σ10 33 9) σ10) ∧ (x2 = 2 → ZkI X M_X0_liberties d n [.ref (zB X + 33)] σ10 (fun v25 σ26 => P v25 σ26)) ∧ (x2 = 3 → ZkZ X M_X4_lives d n [.ref (zB X + 53), iV x1] σ10 (fun v32 σ33 => (v32 = 0 → P 0 σ33) ∧ (¬ (v32 = 0) → P 1 σ33))) ∧ (x2 = 4 → ZkZ X M_X6_isDead d n [.ref (zB X + 67), iV x1] σ10 (fun v43 σ44 => (v43 = 0 → P 0 σ44) ∧ (¬ (v43 = 0) → P 1 σ44))) ∧ ((x2 < 0 ∨ 4 < x2) → P ((-1)) σ10))) ∧ (v1 = 0 → P ((-1)) σ2))) :
    ZkI X M_X9_chain (d + 1) n [.ref (zB X + 0), iV x1, iV x2] σ P := by
  refine zk_of (ls := [some (.ref (zB X + 0)), some (iV x1), some (iV x2)]) pl_RX9 (Nat.le_of_ble_eq_true rfl) rfl (fun k0 => ?_)
  unfold Zn
  refine r_aload_n dX9_chain_0 rfl ?_
  refine r_getP (a := 33) dX9_chain_1 kf_RX9_34 (zlt hn rfl) sh_0 rfl (k0.1 _ _ _ (zlt hn rfl) p_0_4) ?_
  refine r_iload_n dX9_chain_4 rfl ?_
  refine n_callV (N := M_X0_hasStone) (As := [iV x1]) (st := []) dX9_chain_5 mk_X0_hasStone km_RX9_175 kd_X0_hasStone rfl (zlt hn rfl) sh_33 (q := (RX0, TX0, 13)) rfl rfl (zFits_rm d n n n (Nat.le_refl n)) (Nat.le_of_ble_eq_true rfl) rfl k0 h ?_
  rintro _ σ2 k3 ⟨v1, rfl, h4, h5⟩
  change Zm _ _ _ _ _ _ 8 _ [iV v1] _
  refine r_if_ne (t := 13) dX9_chain_8 rfl (r32_z h4)  (fun c6 => ?_) (fun c7 => ?_)
  · have h8 := h5.1 c6
    refine r_aload_n dX9_chain_13 rfl ?_
    refine r_getP (a := 33) dX9_chain_14 kf_RX9_34 (zlt hn rfl) sh_0 rfl (k3.1 _ _ _ (zlt hn rfl) p_0_4) ?_
    refine r_iload_n dX9_chain_17 rfl ?_
    refine n_callV (N := M_X0_gatherChain) (As := [iV x1]) (st := []) dX9_chain_18 mk_X0_gatherChain km_RX9_178 kd_X0_gatherChain rfl (zlt hn rfl) sh_33 (q := (RX0, TX0, 13)) rfl rfl (zFits_rm d n n n (Nat.le_refl n)) (Nat.le_of_ble_eq_true rfl) rfl k3 h8 ?_
    rintro _ σ10 k11 ⟨rfl, h13⟩
    change Zm _ _ _ _ _ _ 21 _ [] _
    refine r_iload_n dX9_chain_21 rfl ?_
    by_cases c14 : x2 = 0
    · have h15 := h13.1 c14
      refine r_tabIn (t := 56) dX9_chain_22 hx2 (by rw [c14]; decide) (by rw [c14]; decide) (by rw [c14]; rfl) rfl ?_
      refine r_aload_n dX9_chain_56 rfl ?_
      refine r_getP (a := 33) dX9_chain_57 kf_RX9_34 (zlt hn rfl) sh_0 rfl (k11.1 _ _ _ (zlt hn rfl) p_0_4) ?_
      refine n_callV (N := M_X0_leastGathered) (As := []) (st := []) dX9_chain_60 mk_X0_leastGathered km_RX9_181 kd_X0_leastGathered rfl (zlt hn rfl) sh_33 (q := (RX0, TX0, 13)) rfl rfl (zFits_rm d n n n (Nat.le_refl n)) (Nat.le_of_ble_eq_true rfl) rfl k11 h15 ?_
      rintro _ σ17 k18 ⟨v16, rfl, h19, h20⟩
      change Zm _ _ _ _ _ _ 63 _ [iV v16] _
      exact r_ireturn dX9_chain_63 rfl ⟨k18, _, rfl, h19, h20⟩
    by_cases c21 : x2 = 1
    · have h22 := h13.2.1 c21
      refine r_tabIn (t := 64) dX9_chain_22 hx2 (by rw [c21]; decide) (by rw [c21]; decide) (by rw [c21]; rfl) rfl ?_
      refine r_aload_n dX9_chain_64 rfl ?_
      refine r_getP (a := 33) dX9_chain_65 kf_RX9_34 (zlt hn rfl) sh_0 rfl (k11.1 _ _ _ (zlt hn rfl) p_0_4) ?_
      refine r_getI dX9_chain_68 kf_RX9_185 (zlt hn rfl) sh_33 (Or.inl rfl) rfl ?_
      exact r_ireturn dX9_chain_71 rfl ⟨k11, _, rfl, (k11.2.1 _ _), h22⟩
    by_cases c23 : x2 = 2
    · have h24 := h13.2.2.1 c23
      refine r_tabIn (t := 72) dX9_chain_22 hx2 (by rw [c23]; decide) (by rw [c23]; decide) (by rw [c23]; rfl) rfl ?_
      refine r_aload_n dX9_chain_72 rfl ?_
      refine r_getP (a := 33) dX9_chain_73 kf_RX9_34 (zlt hn rfl) sh_0 rfl (k11.1 _ _ _ (zlt hn rfl) p_0_4) ?_
      refine n_callV (N := M_X0_liberties) (As := []) (st := []) dX9_chain_76 mk_X0_liberties km_RX9_188 kd_X0_liberties rfl (zlt hn rfl) sh_33 (q := (RX0, TX0, 13)) rfl rfl (zFits_rm d n n n (Nat.le_refl n)) (Nat.le_of_ble_eq_true rfl) rfl k11 h24 ?_
      rintro _ σ26 k27 ⟨v25, rfl, h28, h29⟩
      change Zm _ _ _ _ _ _ 79 _ [iV v25] _
      exact r_ireturn dX9_chain_79 rfl ⟨k27, _, rfl, h28, h29⟩
    by_cases c30 : x2 = 3
    · have h31 := h13.2.2.2.1 c30
      refine r_tabIn (t := 80) dX9_chain_22 hx2 (by rw [c30]; decide) (by rw [c30]; decide) (by rw [c30]; rfl) rfl ?_
      refine r_aload_n dX9_chain_80 rfl ?_
      refine r_getP (a := 53) dX9_chain_81 kf_RX9_64 (zlt hn rfl) sh_0 rfl (k11.1 _ _ _ (zlt hn rfl) p_0_8) ?_
      refine r_iload_n dX9_chain_84 rfl ?_
      refine n_callV (N := M_X4_lives) (As := [iV x1]) (st := []) dX9_chain_85 mk_X4_lives km_RX9_191 kd_X4_lives rfl (zlt hn rfl) sh_53 (q := (RX4, TX4, 10)) rfl rfl (zFits_rm d n n n (Nat.le_refl n)) (Nat.le_of_ble_eq_true rfl) rfl k11 h31 ?_
      rintro _ σ33 k34 ⟨v32, rfl, h35, h36⟩
      change Zm _ _ _ _ _ _ 88 _ [iV v32] _
      refine r_if_eq (t := 95) dX9_chain_88 rfl (r32_z h35)  (fun c37 => ?_) (fun c38 => ?_)
      · have h39 := h36.1 c37
        refine r_iconst dX9_chain_95 ?_
        exact r_ireturn dX9_chain_96 rfl ⟨k34, _, rfl, (r32c rfl), h39⟩
      · have h40 := h36.2 c38
        refine r_iconst dX9_chain_91 ?_
        refine r_goto (t := 96) dX9_chain_92 rfl ?_
        exact r_ireturn dX9_chain_96 rfl ⟨k34, _, rfl, (r32c rfl), h40⟩
    by_cases c41 : x2 = 4
    · have h42 := h13.2.2.2.2.1 c41
      refine r_tabIn (t := 97) dX9_chain_22 hx2 (by rw [c41]; decide) (by rw [c41]; decide) (by rw [c41]; rfl) rfl ?_
      refine r_aload_n dX9_chain_97 rfl ?_
      refine r_getP (a := 67) dX9_chain_98 kf_RX9_80 (zlt hn rfl) sh_0 rfl (k11.1 _ _ _ (zlt hn rfl) p_0_10) ?_
      refine r_iload_n dX9_chain_101 rfl ?_
      refine n_callV (N := M_X6_isDead) (As := [iV x1]) (st := []) dX9_chain_102 mk_X6_isDead km_RX9_194 kd_X6_isDead rfl (zlt hn rfl) sh_67 (q := (RX6, TX6, 5)) rfl rfl (zFits_rm d n n n (Nat.le_refl n)) (Nat.le_of_ble_eq_true rfl) rfl k11 h42 ?_
      rintro _ σ44 k45 ⟨v43, rfl, h46, h47⟩
      change Zm _ _ _ _ _ _ 105 _ [iV v43] _
      refine r_if_eq (t := 112) dX9_chain_105 rfl (r32_z h46)  (fun c48 => ?_) (fun c49 => ?_)
      · have h50 := h47.1 c48
        refine r_iconst dX9_chain_112 ?_
        exact r_ireturn dX9_chain_113 rfl ⟨k45, _, rfl, (r32c rfl), h50⟩
      · have h51 := h47.2 c49
        refine r_iconst dX9_chain_108 ?_
        refine r_goto (t := 113) dX9_chain_109 rfl ?_
        exact r_ireturn dX9_chain_113 rfl ⟨k45, _, rfl, (r32c rfl), h51⟩
    · have c53 : (x2 < 0 ∨ 4 < x2) := by omega
      have h52 := h13.2.2.2.2.2 c53
      refine r_tabOut (t := 114) dX9_chain_22 hx2 c53 rfl ?_
      refine r_iconst dX9_chain_114 ?_
      exact r_ireturn dX9_chain_115 rfl ⟨k11, _, rfl, (r32c rfl), h52⟩
  · have h54 := h5.2 c7
    refine r_iconst dX9_chain_11 ?_
    exact r_ireturn dX9_chain_12 rfl ⟨k3, _, rfl, (r32c rfl), h54⟩
/-! StoneRoom.liberty -/
theorem dX9_liberty_0 : decode M_X9_liberty.2.1 0 = .ok (.iload_n 2, 1) := by decide +kernel
theorem dX9_liberty_1 : decode M_X9_liberty.2.1 1 = .ok (.ifCond .lt 14, 3) := by decide +kernel
theorem dX9_liberty_4 : decode M_X9_liberty.2.1 4 = .ok (.aload_n 0, 1) := by decide +kernel
theorem dX9_liberty_5 : decode M_X9_liberty.2.1 5 = .ok (.getfield 34, 3) := by decide +kernel
theorem dX9_liberty_8 : decode M_X9_liberty.2.1 8 = .ok (.iload_n 1, 1) := by decide +kernel
theorem dX9_liberty_9 : decode M_X9_liberty.2.1 9 = .ok (.invokevirtual 175, 3) := by decide +kernel
theorem dX9_liberty_12 : decode M_X9_liberty.2.1 12 = .ok (.ifCond .ne 5, 3) := by decide +kernel
theorem dX9_liberty_15 : decode M_X9_liberty.2.1 15 = .ok (.iconst (-1), 1) := by decide +kernel
theorem dX9_liberty_16 : decode M_X9_liberty.2.1 16 = .ok (.ireturn, 1) := by decide +kernel
theorem dX9_liberty_17 : decode M_X9_liberty.2.1 17 = .ok (.aload_n 0, 1) := by decide +kernel
theorem dX9_liberty_18 : decode M_X9_liberty.2.1 18 = .ok (.getfield 34, 3) := by decide +kernel
theorem dX9_liberty_21 : decode M_X9_liberty.2.1 21 = .ok (.iload_n 1, 1) := by decide +kernel
theorem dX9_liberty_22 : decode M_X9_liberty.2.1 22 = .ok (.invokevirtual 178, 3) := by decide +kernel
theorem dX9_liberty_25 : decode M_X9_liberty.2.1 25 = .ok (.aload_n 0, 1) := by decide +kernel
theorem dX9_liberty_26 : decode M_X9_liberty.2.1 26 = .ok (.getfield 34, 3) := by decide +kernel
theorem dX9_liberty_29 : decode M_X9_liberty.2.1 29 = .ok (.iload_n 2, 1) := by decide +kernel
theorem dX9_liberty_30 : decode M_X9_liberty.2.1 30 = .ok (.invokevirtual 197, 3) := by decide +kernel
theorem dX9_liberty_33 : decode M_X9_liberty.2.1 33 = .ok (.ireturn, 1) := by decide +kernel
theorem w_X9_liberty {X : ZX} {d n : Nat} {P : Int → ZSto → Prop} {x1 : Int} {x2 : Int} {σ : ZSto} (hn : 73 ≤ n)  (hx1 : R32 x1) (hx2 : R32 x2)
    (h : (x2 < 0 → P ((-1)) σ) ∧ (¬ (x2 < 0) → ZkZ X M_X0_hasStone d n [.ref (zB X + 33), iV x1] σ (fun v5 σ6 => (¬ v5 = 0 → ZkV X M_X0_gatherChain d n [.ref (zB X + 33), iV x1] σ6 (fun σ14 => ZkI X M_X0_nthLiberty d n [.ref (zB X + 33), iV x2] σ14 (fun v18 σ19 => P v18 σ19))) ∧ (v5 = 0 → P ((-1)) σ6)))) :
    ZkI X M_X9_liberty (d + 1) n [.ref (zB X + 0), iV x1, iV x2] σ P := by
  refine zk_of (ls := [some (.ref (zB X + 0)), some (iV x1), some (iV x2)]) pl_RX9 (Nat.le_of_ble_eq_true rfl) rfl (fun k0 => ?_)
  unfold Zn
  refine r_iload_n dX9_liberty_0 rfl ?_
  refine r_if_lt (t := 15) dX9_liberty_1 rfl hx2  (fun c1 => ?_) (fun c2 => ?_)
  · have h3 := h.1 c1
    refine r_iconst dX9_liberty_15 ?_
    exact r_ireturn dX9_liberty_16 rfl ⟨k0, _, rfl, (r32c rfl), h3⟩
  · have h4 := h.2 c2
    refine r_aload_n dX9_liberty_4 rfl ?_
    refine r_getP (a := 33) dX9_liberty_5 kf_RX9_34 (zlt hn rfl) sh_0 rfl (k0.1 _ _ _ (zlt hn rfl) p_0_4) ?_
    refine r_iload_n dX9_liberty_8 rfl ?_
    refine n_callV (N := M_X0_hasStone) (As := [iV x1]) (st := []) dX9_liberty_9 mk_X0_hasStone km_RX9_175 kd_X0_hasStone rfl (zlt hn rfl) sh_33 (q := (RX0, TX0, 13)) rfl rfl (zFits_rm d n n n (Nat.le_refl n)) (Nat.le_of_ble_eq_true rfl) rfl k0 h4 ?_
    rintro _ σ6 k7 ⟨v5, rfl, h8, h9⟩
    change Zm _ _ _ _ _ _ 12 _ [iV v5] _
    refine r_if_ne (t := 17) dX9_liberty_12 rfl (r32_z h8)  (fun c10 => ?_) (fun c11 => ?_)
    · have h12 := h9.1 c10
      refine r_aload_n dX9_liberty_17 rfl ?_
      refine r_getP (a := 33) dX9_liberty_18 kf_RX9_34 (zlt hn rfl) sh_0 rfl (k7.1 _ _ _ (zlt hn rfl) p_0_4) ?_
      refine r_iload_n dX9_liberty_21 rfl ?_
      refine n_callV (N := M_X0_gatherChain) (As := [iV x1]) (st := []) dX9_liberty_22 mk_X0_gatherChain km_RX9_178 kd_X0_gatherChain rfl (zlt hn rfl) sh_33 (q := (RX0, TX0, 13)) rfl rfl (zFits_rm d n n n (Nat.le_refl n)) (Nat.le_of_ble_eq_true rfl) rfl k7 h12 ?_
      rintro _ σ14 k15 ⟨rfl, h17⟩
      change Zm _ _ _ _ _ _ 25 _ [] _
      refine r_aload_n dX9_liberty_25 rfl ?_
      refine r_getP (a := 33) dX9_liberty_26 kf_RX9_34 (zlt hn rfl) sh_0 rfl (k15.1 _ _ _ (zlt hn rfl) p_0_4) ?_
      refine r_iload_n dX9_liberty_29 rfl ?_
      refine n_callV (N := M_X0_nthLiberty) (As := [iV x2]) (st := []) dX9_liberty_30 mk_X0_nthLiberty km_RX9_197 kd_X0_nthLiberty rfl (zlt hn rfl) sh_33 (q := (RX0, TX0, 13)) rfl rfl (zFits_rm d n n n (Nat.le_refl n)) (Nat.le_of_ble_eq_true rfl) rfl k15 h17 ?_
      rintro _ σ19 k20 ⟨v18, rfl, h21, h22⟩
      change Zm _ _ _ _ _ _ 33 _ [iV v18] _
      exact r_ireturn dX9_liberty_33 rfl ⟨k20, _, rfl, h21, h22⟩
    · have h23 := h9.2 c11
      refine r_iconst dX9_liberty_15 ?_
      exact r_ireturn dX9_liberty_16 rfl ⟨k7, _, rfl, (r32c rfl), h23⟩
/-! StoneRoom.region -/
theorem dX9_region_0 : decode M_X9_region.2.1 0 = .ok (.iload_n 1, 1) := by decide +kernel
theorem dX9_region_1 : decode M_X9_region.2.1 1 = .ok (.invokestatic 200, 3) := by decide +kernel
theorem dX9_region_4 : decode M_X9_region.2.1 4 = .ok (.ifCond .eq 26, 3) := by decide +kernel
theorem dX9_region_7 : decode M_X9_region.2.1 7 = .ok (.aload_n 0, 1) := by decide +kernel
theorem dX9_region_8 : decode M_X9_region.2.1 8 = .ok (.getfield 34, 3) := by decide +kernel
theorem dX9_region_11 : decode M_X9_region.2.1 11 = .ok (.iload_n 2, 1) := by decide +kernel
theorem dX9_region_12 : decode M_X9_region.2.1 12 = .ok (.invokevirtual 203, 3) := by decide +kernel
theorem dX9_region_15 : decode M_X9_region.2.1 15 = .ok (.ifCond .eq 15, 3) := by decide +kernel
theorem dX9_region_18 : decode M_X9_region.2.1 18 = .ok (.aload_n 0, 1) := by decide +kernel
theorem dX9_region_19 : decode M_X9_region.2.1 19 = .ok (.getfield 34, 3) := by decide +kernel
theorem dX9_region_22 : decode M_X9_region.2.1 22 = .ok (.iload_n 2, 1) := by decide +kernel
theorem dX9_region_23 : decode M_X9_region.2.1 23 = .ok (.invokevirtual 172, 3) := by decide +kernel
theorem dX9_region_26 : decode M_X9_region.2.1 26 = .ok (.iload_n 1, 1) := by decide +kernel
theorem dX9_region_27 : decode M_X9_region.2.1 27 = .ok (.if_icmp .ne 5, 3) := by decide +kernel
theorem dX9_region_30 : decode M_X9_region.2.1 30 = .ok (.iconst (-1), 1) := by decide +kernel
theorem dX9_region_31 : decode M_X9_region.2.1 31 = .ok (.ireturn, 1) := by decide +kernel
theorem dX9_region_32 : decode M_X9_region.2.1 32 = .ok (.aload_n 0, 1) := by decide +kernel
theorem dX9_region_33 : decode M_X9_region.2.1 33 = .ok (.getfield 64, 3) := by decide +kernel
theorem dX9_region_36 : decode M_X9_region.2.1 36 = .ok (.iload_n 1, 1) := by decide +kernel
theorem dX9_region_37 : decode M_X9_region.2.1 37 = .ok (.iload_n 2, 1) := by decide +kernel
theorem dX9_region_38 : decode M_X9_region.2.1 38 = .ok (.iload_n 3, 1) := by decide +kernel
theorem dX9_region_39 : decode M_X9_region.2.1 39 = .ok (.invokevirtual 204, 3) := by decide +kernel
theorem dX9_region_42 : decode M_X9_region.2.1 42 = .ok (.ireturn, 1) := by decide +kernel
theorem w_X9_region {X : ZX} {d n : Nat} {P : Int → ZSto → Prop} {x1 : Int} {x2 : Int} {x3 : Int} {σ : ZSto} (hn : 73 ≤ n)  (hx1 : R32 x1) (hx2 : R32 x2) (hx3 : R32 x3)
    (h : ZkZ X M_X9_isColour d n [iV x1] σ (fun v1 σ2 => (v1 = 0 → P ((-1)) σ2) ∧ (¬ (v1 = 0) → ZkZ X M_X0_has d n [.ref (zB X + 33), iV x2] σ2 (fun v10 σ11 => (v10 = 0 → P ((-1)) σ11) ∧ (¬ (v10 = 0) → ZkI X M_X0_contentOf d n [.ref (zB X + 33), iV x2] σ11 (fun v19 σ20 => (¬ v19 = x1 → ZkI X M_X4_tellRegion d n [.ref (zB X + 53), iV x1, iV x2, iV x3] σ20 (fun v27 σ28 => P v27 σ28)) ∧ (v19 = x1 → P ((-1)) σ20))))))) :
    ZkI X M_X9_region (d + 1) n [.ref (zB X + 0), iV x1, iV x2, iV x3] σ P := by
  refine zk_of (ls := [some (.ref (zB X + 0)), some (iV x1), some (iV x2), some (iV x3)]) pl_RX9 (Nat.le_of_ble_eq_true rfl) rfl (fun k0 => ?_)
  unfold Zn
  refine r_iload_n dX9_region_0 rfl ?_
  refine n_callS (N := M_X9_isColour) (As := [iV x1]) (st := []) dX9_region_1 mk_X9_isColour km_RX9_200 kd_X9_isColour rfl (zFits_rm d n n n (Nat.le_refl n)) (Nat.le_of_ble_eq_true rfl) rfl k0 h ?_
  rintro _ σ2 k3 ⟨v1, rfl, h4, h5⟩
  change Zm _ _ _ _ _ _ 4 _ [iV v1] _
  refine r_if_eq (t := 30) dX9_region_4 rfl (r32_z h4)  (fun c6 => ?_) (fun c7 => ?_)
  · have h8 := h5.1 c6
    refine r_iconst dX9_region_30 ?_
    exact r_ireturn dX9_region_31 rfl ⟨k3, _, rfl, (r32c rfl), h8⟩
  · have h9 := h5.2 c7
    refine r_aload_n dX9_region_7 rfl ?_
    refine r_getP (a := 33) dX9_region_8 kf_RX9_34 (zlt hn rfl) sh_0 rfl (k3.1 _ _ _ (zlt hn rfl) p_0_4) ?_
    refine r_iload_n dX9_region_11 rfl ?_
    refine n_callV (N := M_X0_has) (As := [iV x2]) (st := []) dX9_region_12 mk_X0_has km_RX9_203 kd_X0_has rfl (zlt hn rfl) sh_33 (q := (RX0, TX0, 13)) rfl rfl (zFits_rm d n n n (Nat.le_refl n)) (Nat.le_of_ble_eq_true rfl) rfl k3 h9 ?_
    rintro _ σ11 k12 ⟨v10, rfl, h13, h14⟩
    change Zm _ _ _ _ _ _ 15 _ [iV v10] _
    refine r_if_eq (t := 30) dX9_region_15 rfl (r32_z h13)  (fun c15 => ?_) (fun c16 => ?_)
    · have h17 := h14.1 c15
      refine r_iconst dX9_region_30 ?_
      exact r_ireturn dX9_region_31 rfl ⟨k12, _, rfl, (r32c rfl), h17⟩
    · have h18 := h14.2 c16
      refine r_aload_n dX9_region_18 rfl ?_
      refine r_getP (a := 33) dX9_region_19 kf_RX9_34 (zlt hn rfl) sh_0 rfl (k12.1 _ _ _ (zlt hn rfl) p_0_4) ?_
      refine r_iload_n dX9_region_22 rfl ?_
      refine n_callV (N := M_X0_contentOf) (As := [iV x2]) (st := []) dX9_region_23 mk_X0_contentOf km_RX9_172 kd_X0_contentOf rfl (zlt hn rfl) sh_33 (q := (RX0, TX0, 13)) rfl rfl (zFits_rm d n n n (Nat.le_refl n)) (Nat.le_of_ble_eq_true rfl) rfl k12 h18 ?_
      rintro _ σ20 k21 ⟨v19, rfl, h22, h23⟩
      change Zm _ _ _ _ _ _ 26 _ [iV v19] _
      refine r_iload_n dX9_region_26 rfl ?_
      refine r_icmp_ne (t := 32) dX9_region_27 rfl h22 hx1 (fun c24 => ?_) (fun c25 => ?_)
      · have h26 := h23.1 c24
        refine r_aload_n dX9_region_32 rfl ?_
        refine r_getP (a := 53) dX9_region_33 kf_RX9_64 (zlt hn rfl) sh_0 rfl (k21.1 _ _ _ (zlt hn rfl) p_0_8) ?_
        refine r_iload_n dX9_region_36 rfl ?_
        refine r_iload_n dX9_region_37 rfl ?_
        refine r_iload_n dX9_region_38 rfl ?_
        refine n_callV (N := M_X4_tellRegion) (As := [iV x1, iV x2, iV x3]) (st := []) dX9_region_39 mk_X4_tellRegion km_RX9_204 kd_X4_tellRegion rfl (zlt hn rfl) sh_53 (q := (RX4, TX4, 10)) rfl rfl (zFits_rm d n n n (Nat.le_refl n)) (Nat.le_of_ble_eq_true rfl) rfl k21 h26 ?_
        rintro _ σ28 k29 ⟨v27, rfl, h30, h31⟩
        change Zm _ _ _ _ _ _ 42 _ [iV v27] _
        exact r_ireturn dX9_region_42 rfl ⟨k29, _, rfl, h30, h31⟩
      · have h32 := h23.2 c25
        refine r_iconst dX9_region_30 ?_
        exact r_ireturn dX9_region_31 rfl ⟨k21, _, rfl, (r32c rfl), h32⟩
/-! StoneRoom.ladder -/
theorem dX9_ladder_0 : decode M_X9_ladder.2.1 0 = .ok (.aload_n 0, 1) := by decide +kernel
theorem dX9_ladder_1 : decode M_X9_ladder.2.1 1 = .ok (.getfield 34, 3) := by decide +kernel
theorem dX9_ladder_4 : decode M_X9_ladder.2.1 4 = .ok (.iload_n 1, 1) := by decide +kernel
theorem dX9_ladder_5 : decode M_X9_ladder.2.1 5 = .ok (.invokevirtual 175, 3) := by decide +kernel
theorem dX9_ladder_8 : decode M_X9_ladder.2.1 8 = .ok (.ifCond .ne 5, 3) := by decide +kernel
theorem dX9_ladder_11 : decode M_X9_ladder.2.1 11 = .ok (.iconst (-1), 1) := by decide +kernel
theorem dX9_ladder_12 : decode M_X9_ladder.2.1 12 = .ok (.ireturn, 1) := by decide +kernel
theorem dX9_ladder_13 : decode M_X9_ladder.2.1 13 = .ok (.aload_n 0, 1) := by decide +kernel
theorem dX9_ladder_14 : decode M_X9_ladder.2.1 14 = .ok (.getfield 34, 3) := by decide +kernel
theorem dX9_ladder_17 : decode M_X9_ladder.2.1 17 = .ok (.iload_n 1, 1) := by decide +kernel
theorem dX9_ladder_18 : decode M_X9_ladder.2.1 18 = .ok (.invokevirtual 178, 3) := by decide +kernel
theorem dX9_ladder_21 : decode M_X9_ladder.2.1 21 = .ok (.aload_n 0, 1) := by decide +kernel
theorem dX9_ladder_22 : decode M_X9_ladder.2.1 22 = .ok (.getfield 34, 3) := by decide +kernel
theorem dX9_ladder_25 : decode M_X9_ladder.2.1 25 = .ok (.invokevirtual 188, 3) := by decide +kernel
theorem dX9_ladder_28 : decode M_X9_ladder.2.1 28 = .ok (.iconst 2, 1) := by decide +kernel
theorem dX9_ladder_29 : decode M_X9_ladder.2.1 29 = .ok (.if_icmp .le 5, 3) := by decide +kernel
theorem dX9_ladder_32 : decode M_X9_ladder.2.1 32 = .ok (.iconst (-1), 1) := by decide +kernel
theorem dX9_ladder_33 : decode M_X9_ladder.2.1 33 = .ok (.ireturn, 1) := by decide +kernel
theorem dX9_ladder_34 : decode M_X9_ladder.2.1 34 = .ok (.aload_n 0, 1) := by decide +kernel
theorem dX9_ladder_35 : decode M_X9_ladder.2.1 35 = .ok (.getfield 71, 3) := by decide +kernel
theorem dX9_ladder_38 : decode M_X9_ladder.2.1 38 = .ok (.aload_n 0, 1) := by decide +kernel
theorem dX9_ladder_39 : decode M_X9_ladder.2.1 39 = .ok (.getfield 34, 3) := by decide +kernel
theorem dX9_ladder_42 : decode M_X9_ladder.2.1 42 = .ok (.iload_n 1, 1) := by decide +kernel
theorem dX9_ladder_43 : decode M_X9_ladder.2.1 43 = .ok (.invokevirtual 207, 3) := by decide +kernel
theorem dX9_ladder_46 : decode M_X9_ladder.2.1 46 = .ok (.ireturn, 1) := by decide +kernel
theorem w_X9_ladder {X : ZX} {d n : Nat} {P : Int → ZSto → Prop} {x1 : Int} {σ : ZSto} (hn : 73 ≤ n)  (hx1 : R32 x1)
    (h : ZkZ X M_X0_hasStone d n [.ref (zB X + 33), iV x1] σ (fun v1 σ2 => (¬ v1 = 0 → ZkV X M_X0_gatherChain d n [.ref (zB X + 33), iV x1] σ2 (fun σ10 => ZkI X M_X0_liberties d n [.ref (zB X + 33)] σ10 (fun v14 σ15 => (v14 ≤ 2 → ZkI X M_X3_readOut d n [.ref (zB X + 61), .ref (zB X + 33), iV x1] σ15 (fun v22 σ23 => P v22 σ23)) ∧ (¬ (v14 ≤ 2) → P ((-1)) σ15)))) ∧ (v1 = 0 → P ((-1)) σ2))) :
    ZkI X M_X9_ladder (d + 1) n [.ref (zB X + 0), iV x1] σ P := by
  refine zk_of (ls := [some (.ref (zB X + 0)), some (iV x1)]) pl_RX9 (Nat.le_of_ble_eq_true rfl) rfl (fun k0 => ?_)
  unfold Zn
  refine r_aload_n dX9_ladder_0 rfl ?_
  refine r_getP (a := 33) dX9_ladder_1 kf_RX9_34 (zlt hn rfl) sh_0 rfl (k0.1 _ _ _ (zlt hn rfl) p_0_4) ?_
  refine r_iload_n dX9_ladder_4 rfl ?_
  refine n_callV (N := M_X0_hasStone) (As := [iV x1]) (st := []) dX9_ladder_5 mk_X0_hasStone km_RX9_175 kd_X0_hasStone rfl (zlt hn rfl) sh_33 (q := (RX0, TX0, 13)) rfl rfl (zFits_rm d n n n (Nat.le_refl n)) (Nat.le_of_ble_eq_true rfl) rfl k0 h ?_
  rintro _ σ2 k3 ⟨v1, rfl, h4, h5⟩
  change Zm _ _ _ _ _ _ 8 _ [iV v1] _
  refine r_if_ne (t := 13) dX9_ladder_8 rfl (r32_z h4)  (fun c6 => ?_) (fun c7 => ?_)
  · have h8 := h5.1 c6
    refine r_aload_n dX9_ladder_13 rfl ?_
    refine r_getP (a := 33) dX9_ladder_14 kf_RX9_34 (zlt hn rfl) sh_0 rfl (k3.1 _ _ _ (zlt hn rfl) p_0_4) ?_
    refine r_iload_n dX9_ladder_17 rfl ?_
    refine n_callV (N := M_X0_gatherChain) (As := [iV x1]) (st := []) dX9_ladder_18 mk_X0_gatherChain km_RX9_178 kd_X0_gatherChain rfl (zlt hn rfl) sh_33 (q := (RX0, TX0, 13)) rfl rfl (zFits_rm d n n n (Nat.le_refl n)) (Nat.le_of_ble_eq_true rfl) rfl k3 h8 ?_
    rintro _ σ10 k11 ⟨rfl, h13⟩
    change Zm _ _ _ _ _ _ 21 _ [] _
    refine r_aload_n dX9_ladder_21 rfl ?_
    refine r_getP (a := 33) dX9_ladder_22 kf_RX9_34 (zlt hn rfl) sh_0 rfl (k11.1 _ _ _ (zlt hn rfl) p_0_4) ?_
    refine n_callV (N := M_X0_liberties) (As := []) (st := []) dX9_ladder_25 mk_X0_liberties km_RX9_188 kd_X0_liberties rfl (zlt hn rfl) sh_33 (q := (RX0, TX0, 13)) rfl rfl (zFits_rm d n n n (Nat.le_refl n)) (Nat.le_of_ble_eq_true rfl) rfl k11 h13 ?_
    rintro _ σ15 k16 ⟨v14, rfl, h17, h18⟩
    change Zm _ _ _ _ _ _ 28 _ [iV v14] _
    refine r_iconst dX9_ladder_28 ?_
    refine r_icmp_le (t := 34) dX9_ladder_29 rfl h17 (r32c rfl) (fun c19 => ?_) (fun c20 => ?_)
    · have h21 := h18.1 c19
      refine r_aload_n dX9_ladder_34 rfl ?_
      refine r_getP (a := 61) dX9_ladder_35 kf_RX9_71 (zlt hn rfl) sh_0 rfl (k16.1 _ _ _ (zlt hn rfl) p_0_9) ?_
      refine r_aload_n dX9_ladder_38 rfl ?_
      refine r_getP (a := 33) dX9_ladder_39 kf_RX9_34 (zlt hn rfl) sh_0 rfl (k16.1 _ _ _ (zlt hn rfl) p_0_4) ?_
      refine r_iload_n dX9_ladder_42 rfl ?_
      refine n_callV (N := M_X3_readOut) (As := [.ref (zB X + 33), iV x1]) (st := []) dX9_ladder_43 mk_X3_readOut km_RX9_207 kd_X3_readOut rfl (zlt hn rfl) sh_61 (q := (RX3, TX3, 11)) rfl rfl (zFits_rm d n n n (Nat.le_refl n)) (Nat.le_of_ble_eq_true rfl) rfl k16 h21 ?_
      rintro _ σ23 k24 ⟨v22, rfl, h25, h26⟩
      change Zm _ _ _ _ _ _ 46 _ [iV v22] _
      exact r_ireturn dX9_ladder_46 rfl ⟨k24, _, rfl, h25, h26⟩
    · have h27 := h18.2 c20
      refine r_iconst dX9_ladder_32 ?_
      exact r_ireturn dX9_ladder_33 rfl ⟨k16, _, rfl, (r32c rfl), h27⟩
  · have h28 := h5.2 c7
    refine r_iconst dX9_ladder_11 ?_
    exact r_ireturn dX9_ladder_12 rfl ⟨k3, _, rfl, (r32c rfl), h28⟩
/-! StoneRoom.steps -/
theorem dX9_steps_0 : decode M_X9_steps.2.1 0 = .ok (.iload_n 1, 1) := by decide +kernel
theorem dX9_steps_1 : decode M_X9_steps.2.1 1 = .ok (.lookupswitch 43 #[(0, 27), (1, 35)], 27) := by decide +kernel
theorem dX9_steps_28 : decode M_X9_steps.2.1 28 = .ok (.aload_n 0, 1) := by decide +kernel
theorem dX9_steps_29 : decode M_X9_steps.2.1 29 = .ok (.getfield 71, 3) := by decide +kernel
theorem dX9_steps_32 : decode M_X9_steps.2.1 32 = .ok (.getfield 211, 3) := by decide +kernel
theorem dX9_steps_35 : decode M_X9_steps.2.1 35 = .ok (.ireturn, 1) := by decide +kernel
theorem dX9_steps_36 : decode M_X9_steps.2.1 36 = .ok (.aload_n 0, 1) := by decide +kernel
theorem dX9_steps_37 : decode M_X9_steps.2.1 37 = .ok (.getfield 71, 3) := by decide +kernel
theorem dX9_steps_40 : decode M_X9_steps.2.1 40 = .ok (.getfield 214, 3) := by decide +kernel
theorem dX9_steps_43 : decode M_X9_steps.2.1 43 = .ok (.ireturn, 1) := by decide +kernel
theorem dX9_steps_44 : decode M_X9_steps.2.1 44 = .ok (.iconst (-1), 1) := by decide +kernel
theorem dX9_steps_45 : decode M_X9_steps.2.1 45 = .ok (.ireturn, 1) := by decide +kernel
theorem w_X9_steps {X : ZX} {d n : Nat} {P : Int → ZSto → Prop} {x1 : Int} {σ : ZSto} (hn : 73 ≤ n)  (hx1 : R32 x1)
    (h : (x1 = 0 → P (gI σ 61 9) σ) ∧ (x1 = 1 → P (gI σ 61 10) σ) ∧ ((¬ x1 = 0 ∧ ¬ x1 = 1) → P ((-1)) σ)) :
    ZkI X M_X9_steps (d + 1) n [.ref (zB X + 0), iV x1] σ P := by
  refine zk_of (ls := [some (.ref (zB X + 0)), some (iV x1)]) pl_RX9 (Nat.le_of_ble_eq_true rfl) rfl (fun k0 => ?_)
  unfold Zn
  refine r_iload_n dX9_steps_0 rfl ?_
  by_cases c1 : x1 = 0
  · have h2 := h.1 c1
    refine r_lookup (t := 28) dX9_steps_1 hx1 rfl (by rw [c1]) rfl ?_
    refine r_aload_n dX9_steps_28 rfl ?_
    refine r_getP (a := 61) dX9_steps_29 kf_RX9_71 (zlt hn rfl) sh_0 rfl (k0.1 _ _ _ (zlt hn rfl) p_0_9) ?_
    refine r_getI dX9_steps_32 kf_RX9_211 (zlt hn rfl) sh_61 (Or.inl rfl) rfl ?_
    exact r_ireturn dX9_steps_35 rfl ⟨k0, _, rfl, (k0.2.1 _ _), h2⟩
  by_cases c3 : x1 = 1
  · have h4 := h.2.1 c3
    refine r_lookup (t := 36) dX9_steps_1 hx1 rfl (by rw [c3]) rfl ?_
    refine r_aload_n dX9_steps_36 rfl ?_
    refine r_getP (a := 61) dX9_steps_37 kf_RX9_71 (zlt hn rfl) sh_0 rfl (k0.1 _ _ _ (zlt hn rfl) p_0_9) ?_
    refine r_getI dX9_steps_40 kf_RX9_214 (zlt hn rfl) sh_61 (Or.inl rfl) rfl ?_
    exact r_ireturn dX9_steps_43 rfl ⟨k0, _, rfl, (k0.2.1 _ _), h4⟩
  · have c6 : (¬ x1 = 0 ∧ ¬ x1 = 1) := ⟨c1, c3⟩
    have h5 := h.2.2 c6
    refine r_lookup (t := 44) dX9_steps_1 hx1 rfl (lk_dflt c1 c3) rfl ?_
    refine r_iconst dX9_steps_44 ?_
    exact r_ireturn dX9_steps_45 rfl ⟨k0, _, rfl, (r32c rfl), h5⟩
/-! StoneRoom.dead -/
theorem dX9_dead_0 : decode M_X9_dead.2.1 0 = .ok (.aload_n 0, 1) := by decide +kernel
theorem dX9_dead_1 : decode M_X9_dead.2.1 1 = .ok (.getfield 34, 3) := by decide +kernel
theorem dX9_dead_4 : decode M_X9_dead.2.1 4 = .ok (.iload_n 1, 1) := by decide +kernel
theorem dX9_dead_5 : decode M_X9_dead.2.1 5 = .ok (.invokevirtual 175, 3) := by decide +kernel
theorem dX9_dead_8 : decode M_X9_dead.2.1 8 = .ok (.ifCond .ne 5, 3) := by decide +kernel
theorem dX9_dead_11 : decode M_X9_dead.2.1 11 = .ok (.iconst (-1), 1) := by decide +kernel
theorem dX9_dead_12 : decode M_X9_dead.2.1 12 = .ok (.ireturn, 1) := by decide +kernel
theorem dX9_dead_13 : decode M_X9_dead.2.1 13 = .ok (.aload_n 0, 1) := by decide +kernel
theorem dX9_dead_14 : decode M_X9_dead.2.1 14 = .ok (.getfield 34, 3) := by decide +kernel
theorem dX9_dead_17 : decode M_X9_dead.2.1 17 = .ok (.iload_n 1, 1) := by decide +kernel
theorem dX9_dead_18 : decode M_X9_dead.2.1 18 = .ok (.invokevirtual 178, 3) := by decide +kernel
theorem dX9_dead_21 : decode M_X9_dead.2.1 21 = .ok (.aload_n 0, 1) := by decide +kernel
theorem dX9_dead_22 : decode M_X9_dead.2.1 22 = .ok (.getfield 80, 3) := by decide +kernel
theorem dX9_dead_25 : decode M_X9_dead.2.1 25 = .ok (.iload_n 2, 1) := by decide +kernel
theorem dX9_dead_26 : decode M_X9_dead.2.1 26 = .ok (.invokevirtual 217, 3) := by decide +kernel
theorem dX9_dead_29 : decode M_X9_dead.2.1 29 = .ok (.aload_n 0, 1) := by decide +kernel
theorem dX9_dead_30 : decode M_X9_dead.2.1 30 = .ok (.getfield 34, 3) := by decide +kernel
theorem dX9_dead_33 : decode M_X9_dead.2.1 33 = .ok (.getfield 185, 3) := by decide +kernel
theorem dX9_dead_36 : decode M_X9_dead.2.1 36 = .ok (.ireturn, 1) := by decide +kernel
theorem w_X9_dead {X : ZX} {d n : Nat} {P : Int → ZSto → Prop} {x1 : Int} {x2 : Int} {σ : ZSto} (hn : 73 ≤ n)  (hx1 : R32 x1) (hx2 : R32 x2)
    (h : ZkZ X M_X0_hasStone d n [.ref (zB X + 33), iV x1] σ (fun v1 σ2 => (¬ v1 = 0 → ZkV X M_X0_gatherChain d n [.ref (zB X + 33), iV x1] σ2 (fun σ10 => ZkV X M_X6_markGathered d n [.ref (zB X + 67), iV x2] σ10 (fun σ15 => P (gI σ15 33 9) σ15))) ∧ (v1 = 0 → P ((-1)) σ2))) :
    ZkI X M_X9_dead (d + 1) n [.ref (zB X + 0), iV x1, iV x2] σ P := by
  refine zk_of (ls := [some (.ref (zB X + 0)), some (iV x1), some (iV x2)]) pl_RX9 (Nat.le_of_ble_eq_true rfl) rfl (fun k0 => ?_)
  unfold Zn
  refine r_aload_n dX9_dead_0 rfl ?_
  refine r_getP (a := 33) dX9_dead_1 kf_RX9_34 (zlt hn rfl) sh_0 rfl (k0.1 _ _ _ (zlt hn rfl) p_0_4) ?_
  refine r_iload_n dX9_dead_4 rfl ?_
  refine n_callV (N := M_X0_hasStone) (As := [iV x1]) (st := []) dX9_dead_5 mk_X0_hasStone km_RX9_175 kd_X0_hasStone rfl (zlt hn rfl) sh_33 (q := (RX0, TX0, 13)) rfl rfl (zFits_rm d n n n (Nat.le_refl n)) (Nat.le_of_ble_eq_true rfl) rfl k0 h ?_
  rintro _ σ2 k3 ⟨v1, rfl, h4, h5⟩
  change Zm _ _ _ _ _ _ 8 _ [iV v1] _
  refine r_if_ne (t := 13) dX9_dead_8 rfl (r32_z h4)  (fun c6 => ?_) (fun c7 => ?_)
  · have h8 := h5.1 c6
    refine r_aload_n dX9_dead_13 rfl ?_
    refine r_getP (a := 33) dX9_dead_14 kf_RX9_34 (zlt hn rfl) sh_0 rfl (k3.1 _ _ _ (zlt hn rfl) p_0_4) ?_
    refine r_iload_n dX9_dead_17 rfl ?_
    refine n_callV (N := M_X0_gatherChain) (As := [iV x1]) (st := []) dX9_dead_18 mk_X0_gatherChain km_RX9_178 kd_X0_gatherChain rfl (zlt hn rfl) sh_33 (q := (RX0, TX0, 13)) rfl rfl (zFits_rm d n n n (Nat.le_refl n)) (Nat.le_of_ble_eq_true rfl) rfl k3 h8 ?_
    rintro _ σ10 k11 ⟨rfl, h13⟩
    change Zm _ _ _ _ _ _ 21 _ [] _
    refine r_aload_n dX9_dead_21 rfl ?_
    refine r_getP (a := 67) dX9_dead_22 kf_RX9_80 (zlt hn rfl) sh_0 rfl (k11.1 _ _ _ (zlt hn rfl) p_0_10) ?_
    refine r_iload_n dX9_dead_25 rfl ?_
    refine n_callV (N := M_X6_markGathered) (As := [iV x2]) (st := []) dX9_dead_26 mk_X6_markGathered km_RX9_217 kd_X6_markGathered rfl (zlt hn rfl) sh_67 (q := (RX6, TX6, 5)) rfl rfl (zFits_rm d n n n (Nat.le_refl n)) (Nat.le_of_ble_eq_true rfl) rfl k11 h13 ?_
    rintro _ σ15 k16 ⟨rfl, h18⟩
    change Zm _ _ _ _ _ _ 29 _ [] _
    refine r_aload_n dX9_dead_29 rfl ?_
    refine r_getP (a := 33) dX9_dead_30 kf_RX9_34 (zlt hn rfl) sh_0 rfl (k16.1 _ _ _ (zlt hn rfl) p_0_4) ?_
    refine r_getI dX9_dead_33 kf_RX9_185 (zlt hn rfl) sh_33 (Or.inl rfl) rfl ?_
    exact r_ireturn dX9_dead_36 rfl ⟨k16, _, rfl, (k16.2.1 _ _), h18⟩
  · have h19 := h5.2 c7
    refine r_iconst dX9_dead_11 ?_
    exact r_ireturn dX9_dead_12 rfl ⟨k3, _, rfl, (r32c rfl), h19⟩
/-! StoneRoom.score -/
theorem dX9_score_0 : decode M_X9_score.2.1 0 = .ok (.iload_n 1, 1) := by decide +kernel
theorem dX9_score_1 : decode M_X9_score.2.1 1 = .ok (.invokestatic 200, 3) := by decide +kernel
theorem dX9_score_4 : decode M_X9_score.2.1 4 = .ok (.ifCond .eq 12, 3) := by decide +kernel
theorem dX9_score_7 : decode M_X9_score.2.1 7 = .ok (.iload_n 2, 1) := by decide +kernel
theorem dX9_score_8 : decode M_X9_score.2.1 8 = .ok (.ifCond .lt 8, 3) := by decide +kernel
theorem dX9_score_11 : decode M_X9_score.2.1 11 = .ok (.iload_n 2, 1) := by decide +kernel
theorem dX9_score_12 : decode M_X9_score.2.1 12 = .ok (.iconst 3, 1) := by decide +kernel
theorem dX9_score_13 : decode M_X9_score.2.1 13 = .ok (.if_icmp .le 5, 3) := by decide +kernel
theorem dX9_score_16 : decode M_X9_score.2.1 16 = .ok (.iconst (-1), 1) := by decide +kernel
theorem dX9_score_17 : decode M_X9_score.2.1 17 = .ok (.ireturn, 1) := by decide +kernel
theorem dX9_score_18 : decode M_X9_score.2.1 18 = .ok (.aload_n 0, 1) := by decide +kernel
theorem dX9_score_19 : decode M_X9_score.2.1 19 = .ok (.iload_n 1, 1) := by decide +kernel
theorem dX9_score_20 : decode M_X9_score.2.1 20 = .ok (.iload_n 2, 1) := by decide +kernel
theorem dX9_score_21 : decode M_X9_score.2.1 21 = .ok (.invokevirtual 221, 3) := by decide +kernel
theorem dX9_score_24 : decode M_X9_score.2.1 24 = .ok (.ireturn, 1) := by decide +kernel
theorem w_X9_score {X : ZX} {d n : Nat} {P : Int → ZSto → Prop} {x1 : Int} {x2 : Int} {σ : ZSto} (hn : 73 ≤ n)  (hx1 : R32 x1) (hx2 : R32 x2)
    (h : ZkZ X M_X9_isColour d n [iV x1] σ (fun v1 σ2 => (v1 = 0 → P ((-1)) σ2) ∧ (¬ (v1 = 0) → (x2 < 0 → P ((-1)) σ2) ∧ (¬ (x2 < 0) → (x2 ≤ 3 → ZkI X M_X9_scoreOf d n [.ref (zB X + 0), iV x1, iV x2] σ2 (fun v17 σ18 => P v17 σ18)) ∧ (¬ (x2 ≤ 3) → P ((-1)) σ2))))) :
    ZkI X M_X9_score (d + 1) n [.ref (zB X + 0), iV x1, iV x2] σ P := by
  refine zk_of (ls := [some (.ref (zB X + 0)), some (iV x1), some (iV x2)]) pl_RX9 (Nat.le_of_ble_eq_true rfl) rfl (fun k0 => ?_)
  unfold Zn
  refine r_iload_n dX9_score_0 rfl ?_
  refine n_callS (N := M_X9_isColour) (As := [iV x1]) (st := []) dX9_score_1 mk_X9_isColour km_RX9_200 kd_X9_isColour rfl (zFits_rm d n n n (Nat.le_refl n)) (Nat.le_of_ble_eq_true rfl) rfl k0 h ?_
  rintro _ σ2 k3 ⟨v1, rfl, h4, h5⟩
  change Zm _ _ _ _ _ _ 4 _ [iV v1] _
  refine r_if_eq (t := 16) dX9_score_4 rfl (r32_z h4)  (fun c6 => ?_) (fun c7 => ?_)
  · have h8 := h5.1 c6
    refine r_iconst dX9_score_16 ?_
    exact r_ireturn dX9_score_17 rfl ⟨k3, _, rfl, (r32c rfl), h8⟩
  · have h9 := h5.2 c7
    refine r_iload_n dX9_score_7 rfl ?_
    refine r_if_lt (t := 16) dX9_score_8 rfl hx2  (fun c10 => ?_) (fun c11 => ?_)
    · have h12 := h9.1 c10
      refine r_iconst dX9_score_16 ?_
      exact r_ireturn dX9_score_17 rfl ⟨k3, _, rfl, (r32c rfl), h12⟩
    · have h13 := h9.2 c11
      refine r_iload_n dX9_score_11 rfl ?_
      refine r_iconst dX9_score_12 ?_
      refine r_icmp_le (t := 18) dX9_score_13 rfl hx2 (r32c rfl) (fun c14 => ?_) (fun c15 => ?_)
      · have h16 := h13.1 c14
        refine r_aload_n dX9_score_18 rfl ?_
        refine r_iload_n dX9_score_19 rfl ?_
        refine r_iload_n dX9_score_20 rfl ?_
        refine n_callV (N := M_X9_scoreOf) (As := [iV x1, iV x2]) (st := []) dX9_score_21 mk_X9_scoreOf km_RX9_221 kd_X9_scoreOf rfl (zlt hn rfl) sh_0 (q := (RX9, TX9, 14)) rfl rfl (zFits_rm d n n n (Nat.le_refl n)) (Nat.le_of_ble_eq_true rfl) rfl k3 h16 ?_
        rintro _ σ18 k19 ⟨v17, rfl, h20, h21⟩
        change Zm _ _ _ _ _ _ 24 _ [iV v17] _
        exact r_ireturn dX9_score_24 rfl ⟨k19, _, rfl, h20, h21⟩
      · have h22 := h13.2 c15
        refine r_iconst dX9_score_16 ?_
        exact r_ireturn dX9_score_17 rfl ⟨k3, _, rfl, (r32c rfl), h22⟩
/-! StoneRoom.ahead -/
theorem dX9_ahead_0 : decode M_X9_ahead.2.1 0 = .ok (.iload_n 1, 1) := by decide +kernel
theorem dX9_ahead_1 : decode M_X9_ahead.2.1 1 = .ok (.ifCond .eq 10, 3) := by decide +kernel
theorem dX9_ahead_4 : decode M_X9_ahead.2.1 4 = .ok (.iload_n 1, 1) := by decide +kernel
theorem dX9_ahead_5 : decode M_X9_ahead.2.1 5 = .ok (.iconst 1, 1) := by decide +kernel
theorem dX9_ahead_6 : decode M_X9_ahead.2.1 6 = .ok (.if_icmp .eq 5, 3) := by decide +kernel
theorem dX9_ahead_9 : decode M_X9_ahead.2.1 9 = .ok (.iconst 0, 1) := by decide +kernel
theorem dX9_ahead_10 : decode M_X9_ahead.2.1 10 = .ok (.ireturn, 1) := by decide +kernel
theorem dX9_ahead_11 : decode M_X9_ahead.2.1 11 = .ok (.iconst 2, 1) := by decide +kernel
theorem dX9_ahead_12 : decode M_X9_ahead.2.1 12 = .ok (.aload_n 0, 1) := by decide +kernel
theorem dX9_ahead_13 : decode M_X9_ahead.2.1 13 = .ok (.iconst 1, 1) := by decide +kernel
theorem dX9_ahead_14 : decode M_X9_ahead.2.1 14 = .ok (.iload_n 1, 1) := by decide +kernel
theorem dX9_ahead_15 : decode M_X9_ahead.2.1 15 = .ok (.invokevirtual 221, 3) := by decide +kernel
theorem dX9_ahead_18 : decode M_X9_ahead.2.1 18 = .ok (.aload_n 0, 1) := by decide +kernel
theorem dX9_ahead_19 : decode M_X9_ahead.2.1 19 = .ok (.iconst 2, 1) := by decide +kernel
theorem dX9_ahead_20 : decode M_X9_ahead.2.1 20 = .ok (.iload_n 1, 1) := by decide +kernel
theorem dX9_ahead_21 : decode M_X9_ahead.2.1 21 = .ok (.invokevirtual 221, 3) := by decide +kernel
theorem dX9_ahead_24 : decode M_X9_ahead.2.1 24 = .ok (.isub, 1) := by decide +kernel
theorem dX9_ahead_25 : decode M_X9_ahead.2.1 25 = .ok (.imul, 1) := by decide +kernel
theorem dX9_ahead_26 : decode M_X9_ahead.2.1 26 = .ok (.aload_n 0, 1) := by decide +kernel
theorem dX9_ahead_27 : decode M_X9_ahead.2.1 27 = .ok (.getfield 10, 3) := by decide +kernel
theorem dX9_ahead_30 : decode M_X9_ahead.2.1 30 = .ok (.getfield 224, 3) := by decide +kernel
theorem dX9_ahead_33 : decode M_X9_ahead.2.1 33 = .ok (.isub, 1) := by decide +kernel
theorem dX9_ahead_34 : decode M_X9_ahead.2.1 34 = .ok (.ireturn, 1) := by decide +kernel
theorem w_X9_ahead {X : ZX} {d n : Nat} {P : Int → ZSto → Prop} {x1 : Int} {σ : ZSto} (hn : 73 ≤ n)  (hx1 : R32 x1)
    (h : (x1 = 0 → ZkI X M_X9_scoreOf d n [.ref (zB X + 0), iV 1, iV x1] σ (fun v4 σ5 => ZkI X M_X9_scoreOf d n [.ref (zB X + 0), iV 2, iV x1] σ5 (fun v9 σ10 => (∃ t14, gP σ10 0 0 = some t14 ∧ zIsT t14 ∧ R32 ((2 * (v4 - v9)) - (gI σ10 t14 14)) ∧ P ((2 * (v4 - v9)) - (gI σ10 t14 14)) σ10)))) ∧ (¬ (x1 = 0) → (x1 = 1 → ZkI X M_X9_scoreOf d n [.ref (zB X + 0), iV 1, iV x1] σ (fun v24 σ25 => ZkI X M_X9_scoreOf d n [.ref (zB X + 0), iV 2, iV x1] σ25 (fun v29 σ30 => (∃ t34, gP σ30 0 0 = some t34 ∧ zIsT t34 ∧ R32 ((2 * (v24 - v29)) - (gI σ30 t34 14)) ∧ P ((2 * (v24 - v29)) - (gI σ30 t34 14)) σ30)))) ∧ (¬ (x1 = 1) → P 0 σ))) :
    ZkI X M_X9_ahead (d + 1) n [.ref (zB X + 0), iV x1] σ P := by
  refine zk_of (ls := [some (.ref (zB X + 0)), some (iV x1)]) pl_RX9 (Nat.le_of_ble_eq_true rfl) rfl (fun k0 => ?_)
  unfold Zn
  refine r_iload_n dX9_ahead_0 rfl ?_
  refine r_if_eq (t := 11) dX9_ahead_1 rfl hx1  (fun c1 => ?_) (fun c2 => ?_)
  · have h3 := h.1 c1
    refine r_iconst dX9_ahead_11 ?_
    refine r_aload_n dX9_ahead_12 rfl ?_
    refine r_iconst dX9_ahead_13 ?_
    refine r_iload_n dX9_ahead_14 rfl ?_
    refine n_callV (N := M_X9_scoreOf) (As := [iV 1, iV x1]) (st := [iV 2]) dX9_ahead_15 mk_X9_scoreOf km_RX9_221 kd_X9_scoreOf rfl (zlt hn rfl) sh_0 (q := (RX9, TX9, 14)) rfl rfl (zFits_rm d n n n (Nat.le_refl n)) (Nat.le_of_ble_eq_true rfl) rfl k0 h3 ?_
    rintro _ σ5 k6 ⟨v4, rfl, h7, h8⟩
    change Zm _ _ _ _ _ _ 18 _ [iV v4, iV 2] _
    refine r_aload_n dX9_ahead_18 rfl ?_
    refine r_iconst dX9_ahead_19 ?_
    refine r_iload_n dX9_ahead_20 rfl ?_
    refine n_callV (N := M_X9_scoreOf) (As := [iV 2, iV x1]) (st := [iV v4, iV 2]) dX9_ahead_21 mk_X9_scoreOf km_RX9_221 kd_X9_scoreOf rfl (zlt hn rfl) sh_0 (q := (RX9, TX9, 14)) rfl rfl (zFits_rm d n n n (Nat.le_refl n)) (Nat.le_of_ble_eq_true rfl) rfl k6 h8 ?_
    rintro _ σ10 k11 ⟨v9, rfl, h12, h13⟩
    change Zm _ _ _ _ _ _ 24 _ [iV v9, iV v4, iV 2] _
    refine r_isub dX9_ahead_24 ?_
    refine r_imul dX9_ahead_25 ?_
    refine r_aload_n dX9_ahead_26 rfl ?_
    obtain ⟨t14, h15, h16, h17⟩ := h13
    refine r_getP (a := t14) dX9_ahead_27 kf_RX9_10 (zlt hn rfl) sh_0 rfl h15 ?_
    refine r_getI dX9_ahead_30 kf_RX9_224 (zT_lt h16 hn) (zT_s h16) (Or.inl rfl) rfl ?_
    refine r_isub dX9_ahead_33 ?_
    obtain ⟨h18, h19⟩ := h17
    exact r_ireturn dX9_ahead_34 rfl ⟨k11, _, rfl, h18, h19⟩
  · have h20 := h.2 c2
    refine r_iload_n dX9_ahead_4 rfl ?_
    refine r_iconst dX9_ahead_5 ?_
    refine r_icmp_eq (t := 11) dX9_ahead_6 rfl hx1 (r32c rfl) (fun c21 => ?_) (fun c22 => ?_)
    · have h23 := h20.1 c21
      refine r_iconst dX9_ahead_11 ?_
      refine r_aload_n dX9_ahead_12 rfl ?_
      refine r_iconst dX9_ahead_13 ?_
      refine r_iload_n dX9_ahead_14 rfl ?_
      refine n_callV (N := M_X9_scoreOf) (As := [iV 1, iV x1]) (st := [iV 2]) dX9_ahead_15 mk_X9_scoreOf km_RX9_221 kd_X9_scoreOf rfl (zlt hn rfl) sh_0 (q := (RX9, TX9, 14)) rfl rfl (zFits_rm d n n n (Nat.le_refl n)) (Nat.le_of_ble_eq_true rfl) rfl k0 h23 ?_
      rintro _ σ25 k26 ⟨v24, rfl, h27, h28⟩
      change Zm _ _ _ _ _ _ 18 _ [iV v24, iV 2] _
      refine r_aload_n dX9_ahead_18 rfl ?_
      refine r_iconst dX9_ahead_19 ?_
      refine r_iload_n dX9_ahead_20 rfl ?_
      refine n_callV (N := M_X9_scoreOf) (As := [iV 2, iV x1]) (st := [iV v24, iV 2]) dX9_ahead_21 mk_X9_scoreOf km_RX9_221 kd_X9_scoreOf rfl (zlt hn rfl) sh_0 (q := (RX9, TX9, 14)) rfl rfl (zFits_rm d n n n (Nat.le_refl n)) (Nat.le_of_ble_eq_true rfl) rfl k26 h28 ?_
      rintro _ σ30 k31 ⟨v29, rfl, h32, h33⟩
      change Zm _ _ _ _ _ _ 24 _ [iV v29, iV v24, iV 2] _
      refine r_isub dX9_ahead_24 ?_
      refine r_imul dX9_ahead_25 ?_
      refine r_aload_n dX9_ahead_26 rfl ?_
      obtain ⟨t34, h35, h36, h37⟩ := h33
      refine r_getP (a := t34) dX9_ahead_27 kf_RX9_10 (zlt hn rfl) sh_0 rfl h35 ?_
      refine r_getI dX9_ahead_30 kf_RX9_224 (zT_lt h36 hn) (zT_s h36) (Or.inl rfl) rfl ?_
      refine r_isub dX9_ahead_33 ?_
      obtain ⟨h38, h39⟩ := h37
      exact r_ireturn dX9_ahead_34 rfl ⟨k31, _, rfl, h38, h39⟩
    · have h40 := h20.2 c22
      refine r_iconst dX9_ahead_9 ?_
      exact r_ireturn dX9_ahead_10 rfl ⟨k0, _, rfl, (r32c rfl), h40⟩
/-! StoneRoom.clocks -/
theorem dX9_clocks_0 : decode M_X9_clocks.2.1 0 = .ok (.iload_n 1, 1) := by decide +kernel
theorem dX9_clocks_1 : decode M_X9_clocks.2.1 1 = .ok (.invokestatic 227, 3) := by decide +kernel
theorem dX9_clocks_4 : decode M_X9_clocks.2.1 4 = .ok (.ifCond .eq 17, 3) := by decide +kernel
theorem dX9_clocks_7 : decode M_X9_clocks.2.1 7 = .ok (.iload_n 2, 1) := by decide +kernel
theorem dX9_clocks_8 : decode M_X9_clocks.2.1 8 = .ok (.invokestatic 227, 3) := by decide +kernel
theorem dX9_clocks_11 : decode M_X9_clocks.2.1 11 = .ok (.ifCond .eq 10, 3) := by decide +kernel
theorem dX9_clocks_14 : decode M_X9_clocks.2.1 14 = .ok (.iload_n 3, 1) := by decide +kernel
theorem dX9_clocks_15 : decode M_X9_clocks.2.1 15 = .ok (.invokestatic 227, 3) := by decide +kernel
theorem dX9_clocks_18 : decode M_X9_clocks.2.1 18 = .ok (.ifCond .ne 5, 3) := by decide +kernel
theorem dX9_clocks_21 : decode M_X9_clocks.2.1 21 = .ok (.iconst 0, 1) := by decide +kernel
theorem dX9_clocks_22 : decode M_X9_clocks.2.1 22 = .ok (.ireturn, 1) := by decide +kernel
theorem dX9_clocks_23 : decode M_X9_clocks.2.1 23 = .ok (.iload_n 2, 1) := by decide +kernel
theorem dX9_clocks_24 : decode M_X9_clocks.2.1 24 = .ok (.ifCond .le 9, 3) := by decide +kernel
theorem dX9_clocks_27 : decode M_X9_clocks.2.1 27 = .ok (.iload_n 3, 1) := by decide +kernel
theorem dX9_clocks_28 : decode M_X9_clocks.2.1 28 = .ok (.ifCond .ne 5, 3) := by decide +kernel
theorem dX9_clocks_31 : decode M_X9_clocks.2.1 31 = .ok (.iconst 0, 1) := by decide +kernel
theorem dX9_clocks_32 : decode M_X9_clocks.2.1 32 = .ok (.ireturn, 1) := by decide +kernel
theorem dX9_clocks_33 : decode M_X9_clocks.2.1 33 = .ok (.aload_n 0, 1) := by decide +kernel
theorem dX9_clocks_34 : decode M_X9_clocks.2.1 34 = .ok (.getfield 87, 3) := by decide +kernel
theorem dX9_clocks_37 : decode M_X9_clocks.2.1 37 = .ok (.iload_n 1, 1) := by decide +kernel
theorem dX9_clocks_38 : decode M_X9_clocks.2.1 38 = .ok (.iload_n 2, 1) := by decide +kernel
theorem dX9_clocks_39 : decode M_X9_clocks.2.1 39 = .ok (.iload_n 3, 1) := by decide +kernel
theorem dX9_clocks_40 : decode M_X9_clocks.2.1 40 = .ok (.invokevirtual 230, 3) := by decide +kernel
theorem dX9_clocks_43 : decode M_X9_clocks.2.1 43 = .ok (.aload_n 0, 1) := by decide +kernel
theorem dX9_clocks_44 : decode M_X9_clocks.2.1 44 = .ok (.getfield 91, 3) := by decide +kernel
theorem dX9_clocks_47 : decode M_X9_clocks.2.1 47 = .ok (.iload_n 1, 1) := by decide +kernel
theorem dX9_clocks_48 : decode M_X9_clocks.2.1 48 = .ok (.iload_n 2, 1) := by decide +kernel
theorem dX9_clocks_49 : decode M_X9_clocks.2.1 49 = .ok (.iload_n 3, 1) := by decide +kernel
theorem dX9_clocks_50 : decode M_X9_clocks.2.1 50 = .ok (.invokevirtual 230, 3) := by decide +kernel
theorem dX9_clocks_53 : decode M_X9_clocks.2.1 53 = .ok (.iconst 1, 1) := by decide +kernel
theorem dX9_clocks_54 : decode M_X9_clocks.2.1 54 = .ok (.ireturn, 1) := by decide +kernel
theorem w_X9_clocks {X : ZX} {d n : Nat} {P : Int → ZSto → Prop} {x1 : Int} {x2 : Int} {x3 : Int} {σ : ZSto} (hn : 73 ≤ n)  (hx1 : R32 x1) (hx2 : R32 x2) (hx3 : R32 x3)
    (h : ZkZ X M_X9_isSeconds d n [iV x1] σ (fun v1 σ2 => (v1 = 0 → P 0 σ2) ∧ (¬ (v1 = 0) → ZkZ X M_X9_isSeconds d n [iV x2] σ2 (fun v10 σ11 => (v10 = 0 → P 0 σ11) ∧ (¬ (v10 = 0) → ZkZ X M_X9_isSeconds d n [iV x3] σ11 (fun v19 σ20 => (¬ v19 = 0 → (x2 ≤ 0 → ZkV X M_X2_wind d n [.ref (zB X + 71), iV x1, iV x2, iV x3] σ20 (fun σ31 => ZkV X M_X2_wind d n [.ref (zB X + 72), iV x1, iV x2, iV x3] σ31 (fun σ36 => P 1 σ36))) ∧ (¬ (x2 ≤ 0) → (¬ x3 = 0 → ZkV X M_X2_wind d n [.ref (zB X + 71), iV x1, iV x2, iV x3] σ20 (fun σ45 => ZkV X M_X2_wind d n [.ref (zB X + 72), iV x1, iV x2, iV x3] σ45 (fun σ50 => P 1 σ50))) ∧ (x3 = 0 → P 0 σ20))) ∧ (v19 = 0 → P 0 σ20))))))) :
    ZkZ X M_X9_clocks (d + 1) n [.ref (zB X + 0), iV x1, iV x2, iV x3] σ P := by
  refine zk_of (ls := [some (.ref (zB X + 0)), some (iV x1), some (iV x2), some (iV x3)]) pl_RX9 (Nat.le_of_ble_eq_true rfl) rfl (fun k0 => ?_)
  unfold Zn
  refine r_iload_n dX9_clocks_0 rfl ?_
  refine n_callS (N := M_X9_isSeconds) (As := [iV x1]) (st := []) dX9_clocks_1 mk_X9_isSeconds km_RX9_227 kd_X9_isSeconds rfl (zFits_rm d n n n (Nat.le_refl n)) (Nat.le_of_ble_eq_true rfl) rfl k0 h ?_
  rintro _ σ2 k3 ⟨v1, rfl, h4, h5⟩
  change Zm _ _ _ _ _ _ 4 _ [iV v1] _
  refine r_if_eq (t := 21) dX9_clocks_4 rfl (r32_z h4)  (fun c6 => ?_) (fun c7 => ?_)
  · have h8 := h5.1 c6
    refine r_iconst dX9_clocks_21 ?_
    exact r_zreturn dX9_clocks_22 rfl (Or.inl rfl) ⟨k3, _, rfl, (Or.inl rfl), h8⟩
  · have h9 := h5.2 c7
    refine r_iload_n dX9_clocks_7 rfl ?_
    refine n_callS (N := M_X9_isSeconds) (As := [iV x2]) (st := []) dX9_clocks_8 mk_X9_isSeconds km_RX9_227 kd_X9_isSeconds rfl (zFits_rm d n n n (Nat.le_refl n)) (Nat.le_of_ble_eq_true rfl) rfl k3 h9 ?_
    rintro _ σ11 k12 ⟨v10, rfl, h13, h14⟩
    change Zm _ _ _ _ _ _ 11 _ [iV v10] _
    refine r_if_eq (t := 21) dX9_clocks_11 rfl (r32_z h13)  (fun c15 => ?_) (fun c16 => ?_)
    · have h17 := h14.1 c15
      refine r_iconst dX9_clocks_21 ?_
      exact r_zreturn dX9_clocks_22 rfl (Or.inl rfl) ⟨k12, _, rfl, (Or.inl rfl), h17⟩
    · have h18 := h14.2 c16
      refine r_iload_n dX9_clocks_14 rfl ?_
      refine n_callS (N := M_X9_isSeconds) (As := [iV x3]) (st := []) dX9_clocks_15 mk_X9_isSeconds km_RX9_227 kd_X9_isSeconds rfl (zFits_rm d n n n (Nat.le_refl n)) (Nat.le_of_ble_eq_true rfl) rfl k12 h18 ?_
      rintro _ σ20 k21 ⟨v19, rfl, h22, h23⟩
      change Zm _ _ _ _ _ _ 18 _ [iV v19] _
      refine r_if_ne (t := 23) dX9_clocks_18 rfl (r32_z h22)  (fun c24 => ?_) (fun c25 => ?_)
      · have h26 := h23.1 c24
        refine r_iload_n dX9_clocks_23 rfl ?_
        refine r_if_le (t := 33) dX9_clocks_24 rfl hx2  (fun c27 => ?_) (fun c28 => ?_)
        · have h29 := h26.1 c27
          refine r_aload_n dX9_clocks_33 rfl ?_
          refine r_getP (a := 71) dX9_clocks_34 kf_RX9_87 (zlt hn rfl) sh_0 rfl (k21.1 _ _ _ (zlt hn rfl) p_0_11) ?_
          refine r_iload_n dX9_clocks_37 rfl ?_
          refine r_iload_n dX9_clocks_38 rfl ?_
          refine r_iload_n dX9_clocks_39 rfl ?_
          refine n_callV (N := M_X2_wind) (As := [iV x1, iV x2, iV x3]) (st := []) dX9_clocks_40 mk_X2_wind km_RX9_230 kd_X2_wind rfl (zlt hn rfl) sh_71 (q := (RX2, TX2, 4)) rfl rfl (zFits_rm d n n n (Nat.le_refl n)) (Nat.le_of_ble_eq_true rfl) rfl k21 h29 ?_
          rintro _ σ31 k32 ⟨rfl, h34⟩
          change Zm _ _ _ _ _ _ 43 _ [] _
          refine r_aload_n dX9_clocks_43 rfl ?_
          refine r_getP (a := 72) dX9_clocks_44 kf_RX9_91 (zlt hn rfl) sh_0 rfl (k32.1 _ _ _ (zlt hn rfl) p_0_12) ?_
          refine r_iload_n dX9_clocks_47 rfl ?_
          refine r_iload_n dX9_clocks_48 rfl ?_
          refine r_iload_n dX9_clocks_49 rfl ?_
          refine n_callV (N := M_X2_wind) (As := [iV x1, iV x2, iV x3]) (st := []) dX9_clocks_50 mk_X2_wind km_RX9_230 kd_X2_wind rfl (zlt hn rfl) sh_72 (q := (RX2, TX2, 4)) rfl rfl (zFits_rm d n n n (Nat.le_refl n)) (Nat.le_of_ble_eq_true rfl) rfl k32 h34 ?_
          rintro _ σ36 k37 ⟨rfl, h39⟩
          change Zm _ _ _ _ _ _ 53 _ [] _
          refine r_iconst dX9_clocks_53 ?_
          exact r_zreturn dX9_clocks_54 rfl (Or.inr rfl) ⟨k37, _, rfl, (Or.inr rfl), h39⟩
        · have h40 := h26.2 c28
          refine r_iload_n dX9_clocks_27 rfl ?_
          refine r_if_ne (t := 33) dX9_clocks_28 rfl hx3  (fun c41 => ?_) (fun c42 => ?_)
          · have h43 := h40.1 c41
            refine r_aload_n dX9_clocks_33 rfl ?_
            refine r_getP (a := 71) dX9_clocks_34 kf_RX9_87 (zlt hn rfl) sh_0 rfl (k21.1 _ _ _ (zlt hn rfl) p_0_11) ?_
            refine r_iload_n dX9_clocks_37 rfl ?_
            refine r_iload_n dX9_clocks_38 rfl ?_
            refine r_iload_n dX9_clocks_39 rfl ?_
            refine n_callV (N := M_X2_wind) (As := [iV x1, iV x2, iV x3]) (st := []) dX9_clocks_40 mk_X2_wind km_RX9_230 kd_X2_wind rfl (zlt hn rfl) sh_71 (q := (RX2, TX2, 4)) rfl rfl (zFits_rm d n n n (Nat.le_refl n)) (Nat.le_of_ble_eq_true rfl) rfl k21 h43 ?_
            rintro _ σ45 k46 ⟨rfl, h48⟩
            change Zm _ _ _ _ _ _ 43 _ [] _
            refine r_aload_n dX9_clocks_43 rfl ?_
            refine r_getP (a := 72) dX9_clocks_44 kf_RX9_91 (zlt hn rfl) sh_0 rfl (k46.1 _ _ _ (zlt hn rfl) p_0_12) ?_
            refine r_iload_n dX9_clocks_47 rfl ?_
            refine r_iload_n dX9_clocks_48 rfl ?_
            refine r_iload_n dX9_clocks_49 rfl ?_
            refine n_callV (N := M_X2_wind) (As := [iV x1, iV x2, iV x3]) (st := []) dX9_clocks_50 mk_X2_wind km_RX9_230 kd_X2_wind rfl (zlt hn rfl) sh_72 (q := (RX2, TX2, 4)) rfl rfl (zFits_rm d n n n (Nat.le_refl n)) (Nat.le_of_ble_eq_true rfl) rfl k46 h48 ?_
            rintro _ σ50 k51 ⟨rfl, h53⟩
            change Zm _ _ _ _ _ _ 53 _ [] _
            refine r_iconst dX9_clocks_53 ?_
            exact r_zreturn dX9_clocks_54 rfl (Or.inr rfl) ⟨k51, _, rfl, (Or.inr rfl), h53⟩
          · have h54 := h40.2 c42
            refine r_iconst dX9_clocks_31 ?_
            exact r_zreturn dX9_clocks_32 rfl (Or.inl rfl) ⟨k21, _, rfl, (Or.inl rfl), h54⟩
      · have h55 := h23.2 c25
        refine r_iconst dX9_clocks_21 ?_
        exact r_zreturn dX9_clocks_22 rfl (Or.inl rfl) ⟨k21, _, rfl, (Or.inl rfl), h55⟩
/-! StoneRoom.clock -/
theorem dX9_clock_0 : decode M_X9_clock.2.1 0 = .ok (.iload_n 1, 1) := by decide +kernel
theorem dX9_clock_1 : decode M_X9_clock.2.1 1 = .ok (.invokestatic 200, 3) := by decide +kernel
theorem dX9_clock_4 : decode M_X9_clock.2.1 4 = .ok (.ifCond .eq 30, 3) := by decide +kernel
theorem dX9_clock_7 : decode M_X9_clock.2.1 7 = .ok (.iload_n 2, 1) := by decide +kernel
theorem dX9_clock_8 : decode M_X9_clock.2.1 8 = .ok (.invokestatic 227, 3) := by decide +kernel
theorem dX9_clock_11 : decode M_X9_clock.2.1 11 = .ok (.ifCond .eq 23, 3) := by decide +kernel
theorem dX9_clock_14 : decode M_X9_clock.2.1 14 = .ok (.aload_n 0, 1) := by decide +kernel
theorem dX9_clock_15 : decode M_X9_clock.2.1 15 = .ok (.getfield 87, 3) := by decide +kernel
theorem dX9_clock_18 : decode M_X9_clock.2.1 18 = .ok (.getfield 234, 3) := by decide +kernel
theorem dX9_clock_21 : decode M_X9_clock.2.1 21 = .ok (.ifCond .ne 13, 3) := by decide +kernel
theorem dX9_clock_24 : decode M_X9_clock.2.1 24 = .ok (.aload_n 0, 1) := by decide +kernel
theorem dX9_clock_25 : decode M_X9_clock.2.1 25 = .ok (.getfield 91, 3) := by decide +kernel
theorem dX9_clock_28 : decode M_X9_clock.2.1 28 = .ok (.getfield 234, 3) := by decide +kernel
theorem dX9_clock_31 : decode M_X9_clock.2.1 31 = .ok (.ifCond .eq 5, 3) := by decide +kernel
theorem dX9_clock_34 : decode M_X9_clock.2.1 34 = .ok (.iconst (-1), 1) := by decide +kernel
theorem dX9_clock_35 : decode M_X9_clock.2.1 35 = .ok (.ireturn, 1) := by decide +kernel
theorem dX9_clock_36 : decode M_X9_clock.2.1 36 = .ok (.aload_n 0, 1) := by decide +kernel
theorem dX9_clock_37 : decode M_X9_clock.2.1 37 = .ok (.iload_n 1, 1) := by decide +kernel
theorem dX9_clock_38 : decode M_X9_clock.2.1 38 = .ok (.invokevirtual 238, 3) := by decide +kernel
theorem dX9_clock_41 : decode M_X9_clock.2.1 41 = .ok (.astore_n 3, 1) := by decide +kernel
theorem dX9_clock_42 : decode M_X9_clock.2.1 42 = .ok (.aload_n 3, 1) := by decide +kernel
theorem dX9_clock_43 : decode M_X9_clock.2.1 43 = .ok (.iload_n 2, 1) := by decide +kernel
theorem dX9_clock_44 : decode M_X9_clock.2.1 44 = .ok (.invokevirtual 242, 3) := by decide +kernel
theorem dX9_clock_47 : decode M_X9_clock.2.1 47 = .ok (.aload_n 3, 1) := by decide +kernel
theorem dX9_clock_48 : decode M_X9_clock.2.1 48 = .ok (.getfield 234, 3) := by decide +kernel
theorem dX9_clock_51 : decode M_X9_clock.2.1 51 = .ok (.ifCond .eq 7, 3) := by decide +kernel
theorem dX9_clock_54 : decode M_X9_clock.2.1 54 = .ok (.iconst 1, 1) := by decide +kernel
theorem dX9_clock_55 : decode M_X9_clock.2.1 55 = .ok (.goto 4, 3) := by decide +kernel
theorem dX9_clock_58 : decode M_X9_clock.2.1 58 = .ok (.iconst 0, 1) := by decide +kernel
theorem dX9_clock_59 : decode M_X9_clock.2.1 59 = .ok (.ireturn, 1) := by decide +kernel
theorem w_X9_clock {X : ZX} {d n : Nat} {P : Int → ZSto → Prop} {x1 : Int} {x2 : Int} {σ : ZSto} (hn : 73 ≤ n)  (hx1 : R32 x1) (hx2 : R32 x2)
    (h : ZkZ X M_X9_isColour d n [iV x1] σ (fun v1 σ2 => (v1 = 0 → P ((-1)) σ2) ∧ (¬ (v1 = 0) → ZkZ X M_X9_isSeconds d n [iV x2] σ2 (fun v10 σ11 => (v10 = 0 → P ((-1)) σ11) ∧ (¬ (v10 = 0) → (¬ gI σ11 71 3 = 0 → P ((-1)) σ11) ∧ (gI σ11 71 3 = 0 → (gI σ11 72 3 = 0 → ZkR X M_X9_clockOf d n [.ref (zB X + 0), iV x1] σ11 (fun v26 σ27 => zIsC v26 ∧ ZkV X M_X2_spend d n [.ref (zB X + v26), iV x2] σ27 (fun σ33 => (gI σ33 v26 3 = 0 → P 0 σ33) ∧ (¬ (gI σ33 v26 3 = 0) → P 1 σ33)))) ∧ (¬ (gI σ11 72 3 = 0) → P ((-1)) σ11))))))) :
    ZkI X M_X9_clock (d + 1) n [.ref (zB X + 0), iV x1, iV x2] σ P := by
  refine zk_of (ls := [some (.ref (zB X + 0)), some (iV x1), some (iV x2), none]) pl_RX9 (Nat.le_of_ble_eq_true rfl) rfl (fun k0 => ?_)
  unfold Zn
  refine r_iload_n dX9_clock_0 rfl ?_
  refine n_callS (N := M_X9_isColour) (As := [iV x1]) (st := []) dX9_clock_1 mk_X9_isColour km_RX9_200 kd_X9_isColour rfl (zFits_rm d n n n (Nat.le_refl n)) (Nat.le_of_ble_eq_true rfl) rfl k0 h ?_
  rintro _ σ2 k3 ⟨v1, rfl, h4, h5⟩
  change Zm _ _ _ _ _ _ 4 _ [iV v1] _
  refine r_if_eq (t := 34) dX9_clock_4 rfl (r32_z h4)  (fun c6 => ?_) (fun c7 => ?_)
  · have h8 := h5.1 c6
    refine r_iconst dX9_clock_34 ?_
    exact r_ireturn dX9_clock_35 rfl ⟨k3, _, rfl, (r32c rfl), h8⟩
  · have h9 := h5.2 c7
    refine r_iload_n dX9_clock_7 rfl ?_
    refine n_callS (N := M_X9_isSeconds) (As := [iV x2]) (st := []) dX9_clock_8 mk_X9_isSeconds km_RX9_227 kd_X9_isSeconds rfl (zFits_rm d n n n (Nat.le_refl n)) (Nat.le_of_ble_eq_true rfl) rfl k3 h9 ?_
    rintro _ σ11 k12 ⟨v10, rfl, h13, h14⟩
    change Zm _ _ _ _ _ _ 11 _ [iV v10] _
    refine r_if_eq (t := 34) dX9_clock_11 rfl (r32_z h13)  (fun c15 => ?_) (fun c16 => ?_)
    · have h17 := h14.1 c15
      refine r_iconst dX9_clock_34 ?_
      exact r_ireturn dX9_clock_35 rfl ⟨k12, _, rfl, (r32c rfl), h17⟩
    · have h18 := h14.2 c16
      refine r_aload_n dX9_clock_14 rfl ?_
      refine r_getP (a := 71) dX9_clock_15 kf_RX9_87 (zlt hn rfl) sh_0 rfl (k12.1 _ _ _ (zlt hn rfl) p_0_11) ?_
      refine r_getI dX9_clock_18 kf_RX9_234 (zlt hn rfl) sh_71 (Or.inr rfl) rfl ?_
      refine r_if_ne (t := 34) dX9_clock_21 rfl (k12.2.1 _ _)  (fun c19 => ?_) (fun c20 => ?_)
      · have h21 := h18.1 c19
        refine r_iconst dX9_clock_34 ?_
        exact r_ireturn dX9_clock_35 rfl ⟨k12, _, rfl, (r32c rfl), h21⟩
      · have h22 := h18.2 c20
        refine r_aload_n dX9_clock_24 rfl ?_
        refine r_getP (a := 72) dX9_clock_25 kf_RX9_91 (zlt hn rfl) sh_0 rfl (k12.1 _ _ _ (zlt hn rfl) p_0_12) ?_
        refine r_getI dX9_clock_28 kf_RX9_234 (zlt hn rfl) sh_72 (Or.inr rfl) rfl ?_
        refine r_if_eq (t := 36) dX9_clock_31 rfl (k12.2.1 _ _)  (fun c23 => ?_) (fun c24 => ?_)
        · have h25 := h22.1 c23
          refine r_aload_n dX9_clock_36 rfl ?_
          refine r_iload_n dX9_clock_37 rfl ?_
          refine n_callV (N := M_X9_clockOf) (As := [iV x1]) (st := []) dX9_clock_38 mk_X9_clockOf km_RX9_238 kd_X9_clockOf rfl (zlt hn rfl) sh_0 (q := (RX9, TX9, 14)) rfl rfl (zFits_rm d n n n (Nat.le_refl n)) (Nat.le_of_ble_eq_true rfl) rfl k12 h25 ?_
          rintro _ σ27 k28 ⟨v26, rfl, h31, h30⟩
          change Zm _ _ _ _ _ _ 41 _ [.ref (zB X + v26)] _
          refine r_astore_n dX9_clock_41 rfl rfl ?_
          refine r_aload_n dX9_clock_42 rfl ?_
          refine r_iload_n dX9_clock_43 rfl ?_
          refine n_callV (N := M_X2_spend) (As := [iV x2]) (st := []) dX9_clock_44 mk_X2_spend km_RX9_242 kd_X2_spend rfl (zC_lt h31 hn) (zC_s h31) (q := (RX2, TX2, 4)) rfl rfl (zFits_rm d n n n (Nat.le_refl n)) (Nat.le_of_ble_eq_true rfl) rfl k28 h30 ?_
          rintro _ σ33 k34 ⟨rfl, h36⟩
          change Zm _ _ _ _ _ _ 47 _ [] _
          refine r_aload_n dX9_clock_47 rfl ?_
          refine r_getI dX9_clock_48 kf_RX9_234 (zC_lt h31 hn) (zC_s h31) (Or.inr rfl) rfl ?_
          refine r_if_eq (t := 58) dX9_clock_51 rfl (k34.2.1 _ _)  (fun c37 => ?_) (fun c38 => ?_)
          · have h39 := h36.1 c37
            refine r_iconst dX9_clock_58 ?_
            exact r_ireturn dX9_clock_59 rfl ⟨k34, _, rfl, (r32c rfl), h39⟩
          · have h40 := h36.2 c38
            refine r_iconst dX9_clock_54 ?_
            refine r_goto (t := 59) dX9_clock_55 rfl ?_
            exact r_ireturn dX9_clock_59 rfl ⟨k34, _, rfl, (r32c rfl), h40⟩
        · have h41 := h22.2 c24
          refine r_iconst dX9_clock_34 ?_
          exact r_ireturn dX9_clock_35 rfl ⟨k12, _, rfl, (r32c rfl), h41⟩
/-! StoneRoom.time -/
theorem dX9_time_0 : decode M_X9_time.2.1 0 = .ok (.iload_n 1, 1) := by decide +kernel
theorem dX9_time_1 : decode M_X9_time.2.1 1 = .ok (.invokestatic 200, 3) := by decide +kernel
theorem dX9_time_4 : decode M_X9_time.2.1 4 = .ok (.ifCond .eq 15, 3) := by decide +kernel
theorem dX9_time_7 : decode M_X9_time.2.1 7 = .ok (.aload_n 0, 1) := by decide +kernel
theorem dX9_time_8 : decode M_X9_time.2.1 8 = .ok (.iload_n 1, 1) := by decide +kernel
theorem dX9_time_9 : decode M_X9_time.2.1 9 = .ok (.invokevirtual 238, 3) := by decide +kernel
theorem dX9_time_12 : decode M_X9_time.2.1 12 = .ok (.iload_n 2, 1) := by decide +kernel
theorem dX9_time_13 : decode M_X9_time.2.1 13 = .ok (.invokevirtual 245, 3) := by decide +kernel
theorem dX9_time_16 : decode M_X9_time.2.1 16 = .ok (.goto 4, 3) := by decide +kernel
theorem dX9_time_19 : decode M_X9_time.2.1 19 = .ok (.iconst (-1), 1) := by decide +kernel
theorem dX9_time_20 : decode M_X9_time.2.1 20 = .ok (.ireturn, 1) := by decide +kernel
theorem w_X9_time {X : ZX} {d n : Nat} {P : Int → ZSto → Prop} {x1 : Int} {x2 : Int} {σ : ZSto} (hn : 73 ≤ n)  (hx1 : R32 x1) (hx2 : R32 x2)
    (h : ZkZ X M_X9_isColour d n [iV x1] σ (fun v1 σ2 => (v1 = 0 → P ((-1)) σ2) ∧ (¬ (v1 = 0) → ZkR X M_X9_clockOf d n [.ref (zB X + 0), iV x1] σ2 (fun v10 σ11 => zIsC v10 ∧ ZkI X M_X2_tell d n [.ref (zB X + v10), iV x2] σ11 (fun v16 σ17 => P v16 σ17))))) :
    ZkI X M_X9_time (d + 1) n [.ref (zB X + 0), iV x1, iV x2] σ P := by
  refine zk_of (ls := [some (.ref (zB X + 0)), some (iV x1), some (iV x2)]) pl_RX9 (Nat.le_of_ble_eq_true rfl) rfl (fun k0 => ?_)
  unfold Zn
  refine r_iload_n dX9_time_0 rfl ?_
  refine n_callS (N := M_X9_isColour) (As := [iV x1]) (st := []) dX9_time_1 mk_X9_isColour km_RX9_200 kd_X9_isColour rfl (zFits_rm d n n n (Nat.le_refl n)) (Nat.le_of_ble_eq_true rfl) rfl k0 h ?_
  rintro _ σ2 k3 ⟨v1, rfl, h4, h5⟩
  change Zm _ _ _ _ _ _ 4 _ [iV v1] _
  refine r_if_eq (t := 19) dX9_time_4 rfl (r32_z h4)  (fun c6 => ?_) (fun c7 => ?_)
  · have h8 := h5.1 c6
    refine r_iconst dX9_time_19 ?_
    exact r_ireturn dX9_time_20 rfl ⟨k3, _, rfl, (r32c rfl), h8⟩
  · have h9 := h5.2 c7
    refine r_aload_n dX9_time_7 rfl ?_
    refine r_iload_n dX9_time_8 rfl ?_
    refine n_callV (N := M_X9_clockOf) (As := [iV x1]) (st := []) dX9_time_9 mk_X9_clockOf km_RX9_238 kd_X9_clockOf rfl (zlt hn rfl) sh_0 (q := (RX9, TX9, 14)) rfl rfl (zFits_rm d n n n (Nat.le_refl n)) (Nat.le_of_ble_eq_true rfl) rfl k3 h9 ?_
    rintro _ σ11 k12 ⟨v10, rfl, h15, h14⟩
    change Zm _ _ _ _ _ _ 12 _ [.ref (zB X + v10)] _
    refine r_iload_n dX9_time_12 rfl ?_
    refine n_callV (N := M_X2_tell) (As := [iV x2]) (st := []) dX9_time_13 mk_X2_tell km_RX9_245 kd_X2_tell rfl (zC_lt h15 hn) (zC_s h15) (q := (RX2, TX2, 4)) rfl rfl (zFits_rm d n n n (Nat.le_refl n)) (Nat.le_of_ble_eq_true rfl) rfl k12 h14 ?_
    rintro _ σ17 k18 ⟨v16, rfl, h19, h20⟩
    change Zm _ _ _ _ _ _ 16 _ [iV v16] _
    refine r_goto (t := 20) dX9_time_16 rfl ?_
    exact r_ireturn dX9_time_20 rfl ⟨k18, _, rfl, h19, h20⟩
/-! StoneRoom.count -/
theorem dX9_count_0 : decode M_X9_count.2.1 0 = .ok (.iload_n 1, 1) := by decide +kernel
theorem dX9_count_1 : decode M_X9_count.2.1 1 = .ok (.tableswitch 164 0 9 #[55, 63, 71, 79, 87, 102, 125, 133, 151, 159], 55) := by decide +kernel
theorem dX9_count_56 : decode M_X9_count.2.1 56 = .ok (.aload_n 0, 1) := by decide +kernel
theorem dX9_count_57 : decode M_X9_count.2.1 57 = .ok (.getfield 10, 3) := by decide +kernel
theorem dX9_count_60 : decode M_X9_count.2.1 60 = .ok (.getfield 247, 3) := by decide +kernel
theorem dX9_count_63 : decode M_X9_count.2.1 63 = .ok (.ireturn, 1) := by decide +kernel
theorem dX9_count_64 : decode M_X9_count.2.1 64 = .ok (.aload_n 0, 1) := by decide +kernel
theorem dX9_count_65 : decode M_X9_count.2.1 65 = .ok (.getfield 10, 3) := by decide +kernel
theorem dX9_count_68 : decode M_X9_count.2.1 68 = .ok (.getfield 142, 3) := by decide +kernel
theorem dX9_count_71 : decode M_X9_count.2.1 71 = .ok (.ireturn, 1) := by decide +kernel
theorem dX9_count_72 : decode M_X9_count.2.1 72 = .ok (.aload_n 0, 1) := by decide +kernel
theorem dX9_count_73 : decode M_X9_count.2.1 73 = .ok (.getfield 10, 3) := by decide +kernel
theorem dX9_count_76 : decode M_X9_count.2.1 76 = .ok (.getfield 119, 3) := by decide +kernel
theorem dX9_count_79 : decode M_X9_count.2.1 79 = .ok (.ireturn, 1) := by decide +kernel
theorem dX9_count_80 : decode M_X9_count.2.1 80 = .ok (.aload_n 0, 1) := by decide +kernel
theorem dX9_count_81 : decode M_X9_count.2.1 81 = .ok (.getfield 10, 3) := by decide +kernel
theorem dX9_count_84 : decode M_X9_count.2.1 84 = .ok (.getfield 224, 3) := by decide +kernel
theorem dX9_count_87 : decode M_X9_count.2.1 87 = .ok (.ireturn, 1) := by decide +kernel
theorem dX9_count_88 : decode M_X9_count.2.1 88 = .ok (.aload_n 0, 1) := by decide +kernel
theorem dX9_count_89 : decode M_X9_count.2.1 89 = .ok (.getfield 10, 3) := by decide +kernel
theorem dX9_count_92 : decode M_X9_count.2.1 92 = .ok (.aload_n 0, 1) := by decide +kernel
theorem dX9_count_93 : decode M_X9_count.2.1 93 = .ok (.getfield 10, 3) := by decide +kernel
theorem dX9_count_96 : decode M_X9_count.2.1 96 = .ok (.getfield 142, 3) := by decide +kernel
theorem dX9_count_99 : decode M_X9_count.2.1 99 = .ok (.invokevirtual 145, 3) := by decide +kernel
theorem dX9_count_102 : decode M_X9_count.2.1 102 = .ok (.ireturn, 1) := by decide +kernel
theorem dX9_count_103 : decode M_X9_count.2.1 103 = .ok (.aload_n 0, 1) := by decide +kernel
theorem dX9_count_104 : decode M_X9_count.2.1 104 = .ok (.getfield 10, 3) := by decide +kernel
theorem dX9_count_107 : decode M_X9_count.2.1 107 = .ok (.aload_n 0, 1) := by decide +kernel
theorem dX9_count_108 : decode M_X9_count.2.1 108 = .ok (.getfield 10, 3) := by decide +kernel
theorem dX9_count_111 : decode M_X9_count.2.1 111 = .ok (.getfield 142, 3) := by decide +kernel
theorem dX9_count_114 : decode M_X9_count.2.1 114 = .ok (.invokevirtual 250, 3) := by decide +kernel
theorem dX9_count_117 : decode M_X9_count.2.1 117 = .ok (.ifCond .eq 7, 3) := by decide +kernel
theorem dX9_count_120 : decode M_X9_count.2.1 120 = .ok (.iconst 1, 1) := by decide +kernel
theorem dX9_count_121 : decode M_X9_count.2.1 121 = .ok (.goto 4, 3) := by decide +kernel
theorem dX9_count_124 : decode M_X9_count.2.1 124 = .ok (.iconst 0, 1) := by decide +kernel
theorem dX9_count_125 : decode M_X9_count.2.1 125 = .ok (.ireturn, 1) := by decide +kernel
theorem dX9_count_126 : decode M_X9_count.2.1 126 = .ok (.aload_n 0, 1) := by decide +kernel
theorem dX9_count_127 : decode M_X9_count.2.1 127 = .ok (.getfield 34, 3) := by decide +kernel
theorem dX9_count_130 : decode M_X9_count.2.1 130 = .ok (.invokevirtual 253, 3) := by decide +kernel
theorem dX9_count_133 : decode M_X9_count.2.1 133 = .ok (.ireturn, 1) := by decide +kernel
theorem dX9_count_134 : decode M_X9_count.2.1 134 = .ok (.aload_n 0, 1) := by decide +kernel
theorem dX9_count_135 : decode M_X9_count.2.1 135 = .ok (.getfield 34, 3) := by decide +kernel
theorem dX9_count_138 : decode M_X9_count.2.1 138 = .ok (.iconst 1, 1) := by decide +kernel
theorem dX9_count_139 : decode M_X9_count.2.1 139 = .ok (.invokevirtual 256, 3) := by decide +kernel
theorem dX9_count_142 : decode M_X9_count.2.1 142 = .ok (.aload_n 0, 1) := by decide +kernel
theorem dX9_count_143 : decode M_X9_count.2.1 143 = .ok (.getfield 34, 3) := by decide +kernel
theorem dX9_count_146 : decode M_X9_count.2.1 146 = .ok (.iconst 2, 1) := by decide +kernel
theorem dX9_count_147 : decode M_X9_count.2.1 147 = .ok (.invokevirtual 256, 3) := by decide +kernel
theorem dX9_count_150 : decode M_X9_count.2.1 150 = .ok (.iadd, 1) := by decide +kernel
theorem dX9_count_151 : decode M_X9_count.2.1 151 = .ok (.ireturn, 1) := by decide +kernel
theorem dX9_count_152 : decode M_X9_count.2.1 152 = .ok (.aload_n 0, 1) := by decide +kernel
theorem dX9_count_153 : decode M_X9_count.2.1 153 = .ok (.getfield 24, 3) := by decide +kernel
theorem dX9_count_156 : decode M_X9_count.2.1 156 = .ok (.getfield 109, 3) := by decide +kernel
theorem dX9_count_159 : decode M_X9_count.2.1 159 = .ok (.ireturn, 1) := by decide +kernel
theorem dX9_count_160 : decode M_X9_count.2.1 160 = .ok (.aload_n 0, 1) := by decide +kernel
theorem dX9_count_161 : decode M_X9_count.2.1 161 = .ok (.getfield 94, 3) := by decide +kernel
theorem dX9_count_164 : decode M_X9_count.2.1 164 = .ok (.ireturn, 1) := by decide +kernel
theorem dX9_count_165 : decode M_X9_count.2.1 165 = .ok (.iconst (-1), 1) := by decide +kernel
theorem dX9_count_166 : decode M_X9_count.2.1 166 = .ok (.ireturn, 1) := by decide +kernel
theorem w_X9_count {X : ZX} {d n : Nat} {P : Int → ZSto → Prop} {x1 : Int} {σ : ZSto} (hn : 73 ≤ n)  (hx1 : R32 x1)
    (h : (x1 = 0 → (∃ t3, gP σ 0 0 = some t3 ∧ zIsT t3 ∧ P (gI σ t3 15) σ)) ∧ (x1 = 1 → (∃ t9, gP σ 0 0 = some t9 ∧ zIsT t9 ∧ P (gI σ t9 16) σ)) ∧ (x1 = 2 → (∃ t15, gP σ 0 0 = some t15 ∧ zIsT t15 ∧ P (gI σ t15 13) σ)) ∧ (x1 = 3 → (∃ t21, gP σ 0 0 = some t21 ∧ zIsT t21 ∧ P (gI σ t21 14) σ)) ∧ (x1 = 4 → (∃ t27, gP σ 0 0 = some t27 ∧ zIsT t27 ∧ ZkI X M_X7_turnAt d n [.ref (zB X + t27), iV (gI σ t27 16)] σ (fun v31 σ32 => P v31 σ32))) ∧ (x1 = 5 → (∃ t38, gP σ 0 0 = some t38 ∧ zIsT t38 ∧ ZkZ X M_X7_isOver d n [.ref (zB X + t38), iV (gI σ t38 16)] σ (fun v42 σ43 => (v42 = 0 → P 0 σ43) ∧ (¬ (v42 = 0) → P 1 σ43)))) ∧ (x1 = 6 → ZkI X M_X0_countChains d n [.ref (zB X + 33)] σ (fun v53 σ54 => P v53 σ54)) ∧ (x1 = 7 → ZkI X M_X0_countOf d n [.ref (zB X + 33), iV 1] σ (fun v60 σ61 => ZkI X M_X0_countOf d n [.ref (zB X + 33), iV 2] σ61 (fun v65 σ66 => R32 (v60 + v65) ∧ P (v60 + v65) σ66))) ∧ (x1 = 8 → P (gI σ 29 1) σ) ∧ (x1 = 9 → P (gI σ 0 13) σ) ∧ ((x1 < 0 ∨ 9 < x1) → P ((-1)) σ)) :
    ZkI X M_X9_count (d + 1) n [.ref (zB X + 0), iV x1] σ P := by
  refine zk_of (ls := [some (.ref (zB X + 0)), some (iV x1)]) pl_RX9 (Nat.le_of_ble_eq_true rfl) rfl (fun k0 => ?_)
  unfold Zn
  refine r_iload_n dX9_count_0 rfl ?_
  by_cases c1 : x1 = 0
  · have h2 := h.1 c1
    refine r_tabIn (t := 56) dX9_count_1 hx1 (by rw [c1]; decide) (by rw [c1]; decide) (by rw [c1]; rfl) rfl ?_
    refine r_aload_n dX9_count_56 rfl ?_
    obtain ⟨t3, h4, h5, h6⟩ := h2
    refine r_getP (a := t3) dX9_count_57 kf_RX9_10 (zlt hn rfl) sh_0 rfl h4 ?_
    refine r_getI dX9_count_60 kf_RX9_247 (zT_lt h5 hn) (zT_s h5) (Or.inl rfl) rfl ?_
    exact r_ireturn dX9_count_63 rfl ⟨k0, _, rfl, (k0.2.1 _ _), h6⟩
  by_cases c7 : x1 = 1
  · have h8 := h.2.1 c7
    refine r_tabIn (t := 64) dX9_count_1 hx1 (by rw [c7]; decide) (by rw [c7]; decide) (by rw [c7]; rfl) rfl ?_
    refine r_aload_n dX9_count_64 rfl ?_
    obtain ⟨t9, h10, h11, h12⟩ := h8
    refine r_getP (a := t9) dX9_count_65 kf_RX9_10 (zlt hn rfl) sh_0 rfl h10 ?_
    refine r_getI dX9_count_68 kf_RX9_142 (zT_lt h11 hn) (zT_s h11) (Or.inl rfl) rfl ?_
    exact r_ireturn dX9_count_71 rfl ⟨k0, _, rfl, (k0.2.1 _ _), h12⟩
  by_cases c13 : x1 = 2
  · have h14 := h.2.2.1 c13
    refine r_tabIn (t := 72) dX9_count_1 hx1 (by rw [c13]; decide) (by rw [c13]; decide) (by rw [c13]; rfl) rfl ?_
    refine r_aload_n dX9_count_72 rfl ?_
    obtain ⟨t15, h16, h17, h18⟩ := h14
    refine r_getP (a := t15) dX9_count_73 kf_RX9_10 (zlt hn rfl) sh_0 rfl h16 ?_
    refine r_getI dX9_count_76 kf_RX9_119 (zT_lt h17 hn) (zT_s h17) (Or.inl rfl) rfl ?_
    exact r_ireturn dX9_count_79 rfl ⟨k0, _, rfl, (k0.2.1 _ _), h18⟩
  by_cases c19 : x1 = 3
  · have h20 := h.2.2.2.1 c19
    refine r_tabIn (t := 80) dX9_count_1 hx1 (by rw [c19]; decide) (by rw [c19]; decide) (by rw [c19]; rfl) rfl ?_
    refine r_aload_n dX9_count_80 rfl ?_
    obtain ⟨t21, h22, h23, h24⟩ := h20
    refine r_getP (a := t21) dX9_count_81 kf_RX9_10 (zlt hn rfl) sh_0 rfl h22 ?_
    refine r_getI dX9_count_84 kf_RX9_224 (zT_lt h23 hn) (zT_s h23) (Or.inl rfl) rfl ?_
    exact r_ireturn dX9_count_87 rfl ⟨k0, _, rfl, (k0.2.1 _ _), h24⟩
  by_cases c25 : x1 = 4
  · have h26 := h.2.2.2.2.1 c25
    refine r_tabIn (t := 88) dX9_count_1 hx1 (by rw [c25]; decide) (by rw [c25]; decide) (by rw [c25]; rfl) rfl ?_
    refine r_aload_n dX9_count_88 rfl ?_
    obtain ⟨t27, h28, h29, h30⟩ := h26
    refine r_getP (a := t27) dX9_count_89 kf_RX9_10 (zlt hn rfl) sh_0 rfl h28 ?_
    refine r_aload_n dX9_count_92 rfl ?_
    refine r_getP (a := t27) dX9_count_93 kf_RX9_10 (zlt hn rfl) sh_0 rfl h28 ?_
    refine r_getI dX9_count_96 kf_RX9_142 (zT_lt h29 hn) (zT_s h29) (Or.inl rfl) rfl ?_
    refine n_callV (N := M_X7_turnAt) (As := [iV (gI σ t27 16)]) (st := []) dX9_count_99 mk_X7_turnAt km_RX9_145 kd_X7_turnAt rfl (zT_lt h29 hn) (zT_s h29) (q := (RX7, TX7, 17)) rfl rfl (zFits_rm d n n n (Nat.le_refl n)) (Nat.le_of_ble_eq_true rfl) rfl k0 h30 ?_
    rintro _ σ32 k33 ⟨v31, rfl, h34, h35⟩
    change Zm _ _ _ _ _ _ 102 _ [iV v31] _
    exact r_ireturn dX9_count_102 rfl ⟨k33, _, rfl, h34, h35⟩
  by_cases c36 : x1 = 5
  · have h37 := h.2.2.2.2.2.1 c36
    refine r_tabIn (t := 103) dX9_count_1 hx1 (by rw [c36]; decide) (by rw [c36]; decide) (by rw [c36]; rfl) rfl ?_
    refine r_aload_n dX9_count_103 rfl ?_
    obtain ⟨t38, h39, h40, h41⟩ := h37
    refine r_getP (a := t38) dX9_count_104 kf_RX9_10 (zlt hn rfl) sh_0 rfl h39 ?_
    refine r_aload_n dX9_count_107 rfl ?_
    refine r_getP (a := t38) dX9_count_108 kf_RX9_10 (zlt hn rfl) sh_0 rfl h39 ?_
    refine r_getI dX9_count_111 kf_RX9_142 (zT_lt h40 hn) (zT_s h40) (Or.inl rfl) rfl ?_
    refine n_callV (N := M_X7_isOver) (As := [iV (gI σ t38 16)]) (st := []) dX9_count_114 mk_X7_isOver km_RX9_250 kd_X7_isOver rfl (zT_lt h40 hn) (zT_s h40) (q := (RX7, TX7, 17)) rfl rfl (zFits_rm d n n n (Nat.le_refl n)) (Nat.le_of_ble_eq_true rfl) rfl k0 h41 ?_
    rintro _ σ43 k44 ⟨v42, rfl, h45, h46⟩
    change Zm _ _ _ _ _ _ 117 _ [iV v42] _
    refine r_if_eq (t := 124) dX9_count_117 rfl (r32_z h45)  (fun c47 => ?_) (fun c48 => ?_)
    · have h49 := h46.1 c47
      refine r_iconst dX9_count_124 ?_
      exact r_ireturn dX9_count_125 rfl ⟨k44, _, rfl, (r32c rfl), h49⟩
    · have h50 := h46.2 c48
      refine r_iconst dX9_count_120 ?_
      refine r_goto (t := 125) dX9_count_121 rfl ?_
      exact r_ireturn dX9_count_125 rfl ⟨k44, _, rfl, (r32c rfl), h50⟩
  by_cases c51 : x1 = 6
  · have h52 := h.2.2.2.2.2.2.1 c51
    refine r_tabIn (t := 126) dX9_count_1 hx1 (by rw [c51]; decide) (by rw [c51]; decide) (by rw [c51]; rfl) rfl ?_
    refine r_aload_n dX9_count_126 rfl ?_
    refine r_getP (a := 33) dX9_count_127 kf_RX9_34 (zlt hn rfl) sh_0 rfl (k0.1 _ _ _ (zlt hn rfl) p_0_4) ?_
    refine n_callV (N := M_X0_countChains) (As := []) (st := []) dX9_count_130 mk_X0_countChains km_RX9_253 kd_X0_countChains rfl (zlt hn rfl) sh_33 (q := (RX0, TX0, 13)) rfl rfl (zFits_rm d n n n (Nat.le_refl n)) (Nat.le_of_ble_eq_true rfl) rfl k0 h52 ?_
    rintro _ σ54 k55 ⟨v53, rfl, h56, h57⟩
    change Zm _ _ _ _ _ _ 133 _ [iV v53] _
    exact r_ireturn dX9_count_133 rfl ⟨k55, _, rfl, h56, h57⟩
  by_cases c58 : x1 = 7
  · have h59 := h.2.2.2.2.2.2.2.1 c58
    refine r_tabIn (t := 134) dX9_count_1 hx1 (by rw [c58]; decide) (by rw [c58]; decide) (by rw [c58]; rfl) rfl ?_
    refine r_aload_n dX9_count_134 rfl ?_
    refine r_getP (a := 33) dX9_count_135 kf_RX9_34 (zlt hn rfl) sh_0 rfl (k0.1 _ _ _ (zlt hn rfl) p_0_4) ?_
    refine r_iconst dX9_count_138 ?_
    refine n_callV (N := M_X0_countOf) (As := [iV 1]) (st := []) dX9_count_139 mk_X0_countOf km_RX9_256 kd_X0_countOf rfl (zlt hn rfl) sh_33 (q := (RX0, TX0, 13)) rfl rfl (zFits_rm d n n n (Nat.le_refl n)) (Nat.le_of_ble_eq_true rfl) rfl k0 h59 ?_
    rintro _ σ61 k62 ⟨v60, rfl, h63, h64⟩
    change Zm _ _ _ _ _ _ 142 _ [iV v60] _
    refine r_aload_n dX9_count_142 rfl ?_
    refine r_getP (a := 33) dX9_count_143 kf_RX9_34 (zlt hn rfl) sh_0 rfl (k62.1 _ _ _ (zlt hn rfl) p_0_4) ?_
    refine r_iconst dX9_count_146 ?_
    refine n_callV (N := M_X0_countOf) (As := [iV 2]) (st := [iV v60]) dX9_count_147 mk_X0_countOf km_RX9_256 kd_X0_countOf rfl (zlt hn rfl) sh_33 (q := (RX0, TX0, 13)) rfl rfl (zFits_rm d n n n (Nat.le_refl n)) (Nat.le_of_ble_eq_true rfl) rfl k62 h64 ?_
    rintro _ σ66 k67 ⟨v65, rfl, h68, h69⟩
    change Zm _ _ _ _ _ _ 150 _ [iV v65, iV v60] _
    refine r_iadd dX9_count_150 ?_
    obtain ⟨h70, h71⟩ := h69
    exact r_ireturn dX9_count_151 rfl ⟨k67, _, rfl, h70, h71⟩
  by_cases c72 : x1 = 8
  · have h73 := h.2.2.2.2.2.2.2.2.1 c72
    refine r_tabIn (t := 152) dX9_count_1 hx1 (by rw [c72]; decide) (by rw [c72]; decide) (by rw [c72]; rfl) rfl ?_
    refine r_aload_n dX9_count_152 rfl ?_
    refine r_getP (a := 29) dX9_count_153 kf_RX9_24 (zlt hn rfl) sh_0 rfl (k0.1 _ _ _ (zlt hn rfl) p_0_2) ?_
    refine r_getI dX9_count_156 kf_RX9_109 (zlt hn rfl) sh_29 (Or.inl rfl) rfl ?_
    exact r_ireturn dX9_count_159 rfl ⟨k0, _, rfl, (k0.2.1 _ _), h73⟩
  by_cases c74 : x1 = 9
  · have h75 := h.2.2.2.2.2.2.2.2.2.1 c74
    refine r_tabIn (t := 160) dX9_count_1 hx1 (by rw [c74]; decide) (by rw [c74]; decide) (by rw [c74]; rfl) rfl ?_
    refine r_aload_n dX9_count_160 rfl ?_
    refine r_getI dX9_count_161 kf_RX9_94 (zlt hn rfl) sh_0 (Or.inl rfl) rfl ?_
    exact r_ireturn dX9_count_164 rfl ⟨k0, _, rfl, (k0.2.1 _ _), h75⟩
  · have c77 : (x1 < 0 ∨ 9 < x1) := by omega
    have h76 := h.2.2.2.2.2.2.2.2.2.2 c77
    refine r_tabOut (t := 165) dX9_count_1 hx1 c77 rfl ?_
    refine r_iconst dX9_count_165 ?_
    exact r_ireturn dX9_count_166 rfl ⟨k0, _, rfl, (r32c rfl), h76⟩
/-! StoneRoom.isSize -/
theorem dX9_isSize_0 : decode M_X9_isSize.2.1 0 = .ok (.iload_n 0, 1) := by decide +kernel
theorem dX9_isSize_1 : decode M_X9_isSize.2.1 1 = .ok (.iconst 3, 1) := by decide +kernel
theorem dX9_isSize_2 : decode M_X9_isSize.2.1 2 = .ok (.if_icmp .lt 13, 3) := by decide +kernel
theorem dX9_isSize_5 : decode M_X9_isSize.2.1 5 = .ok (.iload_n 0, 1) := by decide +kernel
theorem dX9_isSize_6 : decode M_X9_isSize.2.1 6 = .ok (.bipush 9, 2) := by decide +kernel
theorem dX9_isSize_8 : decode M_X9_isSize.2.1 8 = .ok (.if_icmp .gt 7, 3) := by decide +kernel
theorem dX9_isSize_11 : decode M_X9_isSize.2.1 11 = .ok (.iconst 1, 1) := by decide +kernel
theorem dX9_isSize_12 : decode M_X9_isSize.2.1 12 = .ok (.goto 4, 3) := by decide +kernel
theorem dX9_isSize_15 : decode M_X9_isSize.2.1 15 = .ok (.iconst 0, 1) := by decide +kernel
theorem dX9_isSize_16 : decode M_X9_isSize.2.1 16 = .ok (.ireturn, 1) := by decide +kernel
theorem w_X9_isSize {X : ZX} {d n : Nat} {P : Int → ZSto → Prop} {x0 : Int} {σ : ZSto} (hn : 73 ≤ n)  (hx0 : R32 x0)
    (h : (x0 < 3 → P 0 σ) ∧ (¬ (x0 < 3) → (9 < x0 → P 0 σ) ∧ (¬ (9 < x0) → P 1 σ))) :
    ZkZ X M_X9_isSize (d + 1) n [iV x0] σ P := by
  refine zk_of (ls := [some (iV x0)]) pl_RX9 (Nat.le_of_ble_eq_true rfl) rfl (fun k0 => ?_)
  unfold Zn
  refine r_iload_n dX9_isSize_0 rfl ?_
  refine r_iconst dX9_isSize_1 ?_
  refine r_icmp_lt (t := 15) dX9_isSize_2 rfl hx0 (r32c rfl) (fun c1 => ?_) (fun c2 => ?_)
  · have h3 := h.1 c1
    refine r_iconst dX9_isSize_15 ?_
    exact r_zreturn dX9_isSize_16 rfl (Or.inl rfl) ⟨k0, _, rfl, (Or.inl rfl), h3⟩
  · have h4 := h.2 c2
    refine r_iload_n dX9_isSize_5 rfl ?_
    refine r_bipush dX9_isSize_6 rfl ?_
    refine r_icmp_gt (t := 15) dX9_isSize_8 rfl hx0 (r32c rfl) (fun c5 => ?_) (fun c6 => ?_)
    · have h7 := h4.1 c5
      refine r_iconst dX9_isSize_15 ?_
      exact r_zreturn dX9_isSize_16 rfl (Or.inl rfl) ⟨k0, _, rfl, (Or.inl rfl), h7⟩
    · have h8 := h4.2 c6
      refine r_iconst dX9_isSize_11 ?_
      refine r_goto (t := 16) dX9_isSize_12 rfl ?_
      exact r_zreturn dX9_isSize_16 rfl (Or.inr rfl) ⟨k0, _, rfl, (Or.inr rfl), h8⟩
/-! StoneRoom.isKomi -/
theorem dX9_isKomi_0 : decode M_X9_isKomi.2.1 0 = .ok (.iload_n 0, 1) := by decide +kernel
theorem dX9_isKomi_1 : decode M_X9_isKomi.2.1 1 = .ok (.sipush (-200), 3) := by decide +kernel
theorem dX9_isKomi_4 : decode M_X9_isKomi.2.1 4 = .ok (.if_icmp .lt 14, 3) := by decide +kernel
theorem dX9_isKomi_7 : decode M_X9_isKomi.2.1 7 = .ok (.iload_n 0, 1) := by decide +kernel
theorem dX9_isKomi_8 : decode M_X9_isKomi.2.1 8 = .ok (.sipush 200, 3) := by decide +kernel
theorem dX9_isKomi_11 : decode M_X9_isKomi.2.1 11 = .ok (.if_icmp .gt 7, 3) := by decide +kernel
theorem dX9_isKomi_14 : decode M_X9_isKomi.2.1 14 = .ok (.iconst 1, 1) := by decide +kernel
theorem dX9_isKomi_15 : decode M_X9_isKomi.2.1 15 = .ok (.goto 4, 3) := by decide +kernel
theorem dX9_isKomi_18 : decode M_X9_isKomi.2.1 18 = .ok (.iconst 0, 1) := by decide +kernel
theorem dX9_isKomi_19 : decode M_X9_isKomi.2.1 19 = .ok (.ireturn, 1) := by decide +kernel
theorem w_X9_isKomi {X : ZX} {d n : Nat} {P : Int → ZSto → Prop} {x0 : Int} {σ : ZSto} (hn : 73 ≤ n)  (hx0 : R32 x0)
    (h : (x0 < (-200) → P 0 σ) ∧ (¬ (x0 < (-200)) → (200 < x0 → P 0 σ) ∧ (¬ (200 < x0) → P 1 σ))) :
    ZkZ X M_X9_isKomi (d + 1) n [iV x0] σ P := by
  refine zk_of (ls := [some (iV x0)]) pl_RX9 (Nat.le_of_ble_eq_true rfl) rfl (fun k0 => ?_)
  unfold Zn
  refine r_iload_n dX9_isKomi_0 rfl ?_
  refine r_sipush dX9_isKomi_1 rfl ?_
  refine r_icmp_lt (t := 18) dX9_isKomi_4 rfl hx0 (r32c rfl) (fun c1 => ?_) (fun c2 => ?_)
  · have h3 := h.1 c1
    refine r_iconst dX9_isKomi_18 ?_
    exact r_zreturn dX9_isKomi_19 rfl (Or.inl rfl) ⟨k0, _, rfl, (Or.inl rfl), h3⟩
  · have h4 := h.2 c2
    refine r_iload_n dX9_isKomi_7 rfl ?_
    refine r_sipush dX9_isKomi_8 rfl ?_
    refine r_icmp_gt (t := 18) dX9_isKomi_11 rfl hx0 (r32c rfl) (fun c5 => ?_) (fun c6 => ?_)
    · have h7 := h4.1 c5
      refine r_iconst dX9_isKomi_18 ?_
      exact r_zreturn dX9_isKomi_19 rfl (Or.inl rfl) ⟨k0, _, rfl, (Or.inl rfl), h7⟩
    · have h8 := h4.2 c6
      refine r_iconst dX9_isKomi_14 ?_
      refine r_goto (t := 19) dX9_isKomi_15 rfl ?_
      exact r_zreturn dX9_isKomi_19 rfl (Or.inr rfl) ⟨k0, _, rfl, (Or.inr rfl), h8⟩
/-! StoneRoom.isColour -/
theorem dX9_isColour_0 : decode M_X9_isColour.2.1 0 = .ok (.iload_n 0, 1) := by decide +kernel
theorem dX9_isColour_1 : decode M_X9_isColour.2.1 1 = .ok (.iconst 1, 1) := by decide +kernel
theorem dX9_isColour_2 : decode M_X9_isColour.2.1 2 = .ok (.if_icmp .eq 8, 3) := by decide +kernel
theorem dX9_isColour_5 : decode M_X9_isColour.2.1 5 = .ok (.iload_n 0, 1) := by decide +kernel
theorem dX9_isColour_6 : decode M_X9_isColour.2.1 6 = .ok (.iconst 2, 1) := by decide +kernel
theorem dX9_isColour_7 : decode M_X9_isColour.2.1 7 = .ok (.if_icmp .ne 7, 3) := by decide +kernel
theorem dX9_isColour_10 : decode M_X9_isColour.2.1 10 = .ok (.iconst 1, 1) := by decide +kernel
theorem dX9_isColour_11 : decode M_X9_isColour.2.1 11 = .ok (.goto 4, 3) := by decide +kernel
theorem dX9_isColour_14 : decode M_X9_isColour.2.1 14 = .ok (.iconst 0, 1) := by decide +kernel
theorem dX9_isColour_15 : decode M_X9_isColour.2.1 15 = .ok (.ireturn, 1) := by decide +kernel
theorem w_X9_isColour {X : ZX} {d n : Nat} {P : Int → ZSto → Prop} {x0 : Int} {σ : ZSto} (hn : 73 ≤ n)  (hx0 : R32 x0)
    (h : (x0 = 1 → P 1 σ) ∧ (¬ (x0 = 1) → (¬ x0 = 2 → P 0 σ) ∧ (x0 = 2 → P 1 σ))) :
    ZkZ X M_X9_isColour (d + 1) n [iV x0] σ P := by
  refine zk_of (ls := [some (iV x0)]) pl_RX9 (Nat.le_of_ble_eq_true rfl) rfl (fun k0 => ?_)
  unfold Zn
  refine r_iload_n dX9_isColour_0 rfl ?_
  refine r_iconst dX9_isColour_1 ?_
  refine r_icmp_eq (t := 10) dX9_isColour_2 rfl hx0 (r32c rfl) (fun c1 => ?_) (fun c2 => ?_)
  · have h3 := h.1 c1
    refine r_iconst dX9_isColour_10 ?_
    refine r_goto (t := 15) dX9_isColour_11 rfl ?_
    exact r_zreturn dX9_isColour_15 rfl (Or.inr rfl) ⟨k0, _, rfl, (Or.inr rfl), h3⟩
  · have h4 := h.2 c2
    refine r_iload_n dX9_isColour_5 rfl ?_
    refine r_iconst dX9_isColour_6 ?_
    refine r_icmp_ne (t := 14) dX9_isColour_7 rfl hx0 (r32c rfl) (fun c5 => ?_) (fun c6 => ?_)
    · have h7 := h4.1 c5
      refine r_iconst dX9_isColour_14 ?_
      exact r_zreturn dX9_isColour_15 rfl (Or.inl rfl) ⟨k0, _, rfl, (Or.inl rfl), h7⟩
    · have h8 := h4.2 c6
      refine r_iconst dX9_isColour_10 ?_
      refine r_goto (t := 15) dX9_isColour_11 rfl ?_
      exact r_zreturn dX9_isColour_15 rfl (Or.inr rfl) ⟨k0, _, rfl, (Or.inr rfl), h8⟩
/-! StoneRoom.isSeconds -/
theorem dX9_isSeconds_0 : decode M_X9_isSeconds.2.1 0 = .ok (.iload_n 0, 1) := by decide +kernel
theorem dX9_isSeconds_1 : decode M_X9_isSeconds.2.1 1 = .ok (.ifCond .lt 14, 3) := by decide +kernel
theorem dX9_isSeconds_4 : decode M_X9_isSeconds.2.1 4 = .ok (.iload_n 0, 1) := by decide +kernel
theorem dX9_isSeconds_5 : decode M_X9_isSeconds.2.1 5 = .ok (.ldc_w 259, 3) := by decide +kernel
theorem dX9_isSeconds_8 : decode M_X9_isSeconds.2.1 8 = .ok (.if_icmp .gt 7, 3) := by decide +kernel
theorem dX9_isSeconds_11 : decode M_X9_isSeconds.2.1 11 = .ok (.iconst 1, 1) := by decide +kernel
theorem dX9_isSeconds_12 : decode M_X9_isSeconds.2.1 12 = .ok (.goto 4, 3) := by decide +kernel
theorem dX9_isSeconds_15 : decode M_X9_isSeconds.2.1 15 = .ok (.iconst 0, 1) := by decide +kernel
theorem dX9_isSeconds_16 : decode M_X9_isSeconds.2.1 16 = .ok (.ireturn, 1) := by decide +kernel
theorem w_X9_isSeconds {X : ZX} {d n : Nat} {P : Int → ZSto → Prop} {x0 : Int} {σ : ZSto} (hn : 73 ≤ n)  (hx0 : R32 x0)
    (h : (x0 < 0 → P 0 σ) ∧ (¬ (x0 < 0) → (100000 < x0 → P 0 σ) ∧ (¬ (100000 < x0) → P 1 σ))) :
    ZkZ X M_X9_isSeconds (d + 1) n [iV x0] σ P := by
  refine zk_of (ls := [some (iV x0)]) pl_RX9 (Nat.le_of_ble_eq_true rfl) rfl (fun k0 => ?_)
  unfold Zn
  refine r_iload_n dX9_isSeconds_0 rfl ?_
  refine r_if_lt (t := 15) dX9_isSeconds_1 rfl hx0  (fun c1 => ?_) (fun c2 => ?_)
  · have h3 := h.1 c1
    refine r_iconst dX9_isSeconds_15 ?_
    exact r_zreturn dX9_isSeconds_16 rfl (Or.inl rfl) ⟨k0, _, rfl, (Or.inl rfl), h3⟩
  · have h4 := h.2 c2
    refine r_iload_n dX9_isSeconds_4 rfl ?_
    refine r_ldcw (x := 100000) dX9_isSeconds_5 kc_RX9_259 rfl ?_
    refine r_icmp_gt (t := 15) dX9_isSeconds_8 rfl hx0 (r32c rfl) (fun c5 => ?_) (fun c6 => ?_)
    · have h7 := h4.1 c5
      refine r_iconst dX9_isSeconds_15 ?_
      exact r_zreturn dX9_isSeconds_16 rfl (Or.inl rfl) ⟨k0, _, rfl, (Or.inl rfl), h7⟩
    · have h8 := h4.2 c6
      refine r_iconst dX9_isSeconds_11 ?_
      refine r_goto (t := 16) dX9_isSeconds_12 rfl ?_
      exact r_zreturn dX9_isSeconds_16 rfl (Or.inr rfl) ⟨k0, _, rfl, (Or.inr rfl), h8⟩
/-! StoneRoom.otherColour -/
theorem dX9_otherColour_0 : decode M_X9_otherColour.2.1 0 = .ok (.iload_n 0, 1) := by decide +kernel
theorem dX9_otherColour_1 : decode M_X9_otherColour.2.1 1 = .ok (.iconst 1, 1) := by decide +kernel
theorem dX9_otherColour_2 : decode M_X9_otherColour.2.1 2 = .ok (.if_icmp .ne 7, 3) := by decide +kernel
theorem dX9_otherColour_5 : decode M_X9_otherColour.2.1 5 = .ok (.iconst 2, 1) := by decide +kernel
theorem dX9_otherColour_6 : decode M_X9_otherColour.2.1 6 = .ok (.goto 4, 3) := by decide +kernel
theorem dX9_otherColour_9 : decode M_X9_otherColour.2.1 9 = .ok (.iconst 1, 1) := by decide +kernel
theorem dX9_otherColour_10 : decode M_X9_otherColour.2.1 10 = .ok (.ireturn, 1) := by decide +kernel
theorem w_X9_otherColour {X : ZX} {d n : Nat} {P : Int → ZSto → Prop} {x0 : Int} {σ : ZSto} (hn : 73 ≤ n)  (hx0 : R32 x0)
    (h : (¬ x0 = 1 → P 1 σ) ∧ (x0 = 1 → P 2 σ)) :
    ZkI X M_X9_otherColour (d + 1) n [iV x0] σ P := by
  refine zk_of (ls := [some (iV x0)]) pl_RX9 (Nat.le_of_ble_eq_true rfl) rfl (fun k0 => ?_)
  unfold Zn
  refine r_iload_n dX9_otherColour_0 rfl ?_
  refine r_iconst dX9_otherColour_1 ?_
  refine r_icmp_ne (t := 9) dX9_otherColour_2 rfl hx0 (r32c rfl) (fun c1 => ?_) (fun c2 => ?_)
  · have h3 := h.1 c1
    refine r_iconst dX9_otherColour_9 ?_
    exact r_ireturn dX9_otherColour_10 rfl ⟨k0, _, rfl, (r32c rfl), h3⟩
  · have h4 := h.2 c2
    refine r_iconst dX9_otherColour_5 ?_
    refine r_goto (t := 10) dX9_otherColour_6 rfl ?_
    exact r_ireturn dX9_otherColour_10 rfl ⟨k0, _, rfl, (r32c rfl), h4⟩
/-! StoneRoom.pairAt -/
theorem dX9_pairAt_0 : decode M_X9_pairAt.2.1 0 = .ok (.iload_n 1, 1) := by decide +kernel
theorem dX9_pairAt_1 : decode M_X9_pairAt.2.1 1 = .ok (.iload_n 2, 1) := by decide +kernel
theorem dX9_pairAt_2 : decode M_X9_pairAt.2.1 2 = .ok (.iconst 5, 1) := by decide +kernel
theorem dX9_pairAt_3 : decode M_X9_pairAt.2.1 3 = .ok (.ishr, 1) := by decide +kernel
theorem dX9_pairAt_4 : decode M_X9_pairAt.2.1 4 = .ok (.iadd, 1) := by decide +kernel
theorem dX9_pairAt_5 : decode M_X9_pairAt.2.1 5 = .ok (.istore_n 3, 1) := by decide +kernel
theorem dX9_pairAt_6 : decode M_X9_pairAt.2.1 6 = .ok (.iload_n 3, 1) := by decide +kernel
theorem dX9_pairAt_7 : decode M_X9_pairAt.2.1 7 = .ok (.ifCond .lt 9, 3) := by decide +kernel
theorem dX9_pairAt_10 : decode M_X9_pairAt.2.1 10 = .ok (.iload_n 3, 1) := by decide +kernel
theorem dX9_pairAt_11 : decode M_X9_pairAt.2.1 11 = .ok (.aload_n 0, 1) := by decide +kernel
theorem dX9_pairAt_12 : decode M_X9_pairAt.2.1 12 = .ok (.arraylength, 1) := by decide +kernel
theorem dX9_pairAt_13 : decode M_X9_pairAt.2.1 13 = .ok (.if_icmp .lt 7, 3) := by decide +kernel
theorem dX9_pairAt_16 : decode M_X9_pairAt.2.1 16 = .ok (.iconst 0, 1) := by decide +kernel
theorem dX9_pairAt_17 : decode M_X9_pairAt.2.1 17 = .ok (.goto 16, 3) := by decide +kernel
theorem dX9_pairAt_20 : decode M_X9_pairAt.2.1 20 = .ok (.aload_n 0, 1) := by decide +kernel
theorem dX9_pairAt_21 : decode M_X9_pairAt.2.1 21 = .ok (.iload_n 3, 1) := by decide +kernel
theorem dX9_pairAt_22 : decode M_X9_pairAt.2.1 22 = .ok (.laload, 1) := by decide +kernel
theorem dX9_pairAt_23 : decode M_X9_pairAt.2.1 23 = .ok (.iconst 2, 1) := by decide +kernel
theorem dX9_pairAt_24 : decode M_X9_pairAt.2.1 24 = .ok (.iload_n 2, 1) := by decide +kernel
theorem dX9_pairAt_25 : decode M_X9_pairAt.2.1 25 = .ok (.bipush 31, 2) := by decide +kernel
theorem dX9_pairAt_27 : decode M_X9_pairAt.2.1 27 = .ok (.iand, 1) := by decide +kernel
theorem dX9_pairAt_28 : decode M_X9_pairAt.2.1 28 = .ok (.imul, 1) := by decide +kernel
theorem dX9_pairAt_29 : decode M_X9_pairAt.2.1 29 = .ok (.lushr, 1) := by decide +kernel
theorem dX9_pairAt_30 : decode M_X9_pairAt.2.1 30 = .ok (.l2i, 1) := by decide +kernel
theorem dX9_pairAt_31 : decode M_X9_pairAt.2.1 31 = .ok (.iconst 3, 1) := by decide +kernel
theorem dX9_pairAt_32 : decode M_X9_pairAt.2.1 32 = .ok (.iand, 1) := by decide +kernel
theorem dX9_pairAt_33 : decode M_X9_pairAt.2.1 33 = .ok (.ireturn, 1) := by decide +kernel
theorem w_X9_pairAt {X : ZX} {d n : Nat} {P : Int → ZSto → Prop} {a0 : Nat} {z0 : Nat} {x1 : Int} {x2 : Int} {σ : ZSto} (hn : 73 ≤ n) (ha0 : a0 < n) (hs0 : SH a0 = some (.inl (.long, z0))) (hx1 : R32 x1) (hx2 : R32 x2)
    (h : R32 (x1 + (shrI x2 5)) ∧ (x1 + (shrI x2 5) < 0 → P 0 σ) ∧ (¬ (x1 + (shrI x2 5) < 0) → (x1 + (shrI x2 5) < (z0 : Int) → (0 ≤ x1 + (shrI x2 5) ∧ x1 + (shrI x2 5) < z0) ∧ P (andI (l2iF (lushrF (gL σ a0 ((x1 + (shrI x2 5)).toNat)) (2 * (andI x2 31)))) 3) σ) ∧ (¬ (x1 + (shrI x2 5) < (z0 : Int)) → P 0 σ))) :
    ZkI X M_X9_pairAt (d + 1) n [.ref (zB X + a0), iV x1, iV x2] σ P := by
  refine zk_of (ls := [some (.ref (zB X + a0)), some (iV x1), some (iV x2), none]) pl_RX9 (Nat.le_of_ble_eq_true rfl) rfl (fun k0 => ?_)
  unfold Zn
  refine r_iload_n dX9_pairAt_0 rfl ?_
  refine r_iload_n dX9_pairAt_1 rfl ?_
  refine r_iconst dX9_pairAt_2 ?_
  refine r_ishr dX9_pairAt_3 ?_
  refine r_iadd dX9_pairAt_4 ?_
  refine r_istore_n dX9_pairAt_5 rfl rfl ?_
  refine r_iload_n dX9_pairAt_6 rfl ?_
  obtain ⟨h1, h2⟩ := h
  refine r_if_lt (t := 16) dX9_pairAt_7 rfl h1  (fun c3 => ?_) (fun c4 => ?_)
  · have h5 := h2.1 c3
    refine r_iconst dX9_pairAt_16 ?_
    refine r_goto (t := 33) dX9_pairAt_17 rfl ?_
    exact r_ireturn dX9_pairAt_33 rfl ⟨k0, _, rfl, (r32c rfl), h5⟩
  · have h6 := h2.2 c4
    refine r_iload_n dX9_pairAt_10 rfl ?_
    refine r_aload_n dX9_pairAt_11 rfl ?_
    refine r_alen dX9_pairAt_12 ha0 hs0 (Or.inr (Or.inr (Or.inr rfl))) ?_
    refine r_icmp_lt (t := 20) dX9_pairAt_13 rfl h1 (r32_len hs0) (fun c7 => ?_) (fun c8 => ?_)
    · have h9 := h6.1 c7
      refine r_aload_n dX9_pairAt_20 rfl ?_
      refine r_iload_n dX9_pairAt_21 rfl ?_
      obtain ⟨h10, h11⟩ := h9
      refine r_laloadE dX9_pairAt_22 ha0 hs0 h10.1 h10.2 rfl ?_
      refine r_iconst dX9_pairAt_23 ?_
      refine r_iload_n dX9_pairAt_24 rfl ?_
      refine r_bipush dX9_pairAt_25 rfl ?_
      refine r_iand dX9_pairAt_27 ?_
      refine r_imul dX9_pairAt_28 ?_
      refine r_lushr dX9_pairAt_29 ?_
      refine r_l2i dX9_pairAt_30 ?_
      refine r_iconst dX9_pairAt_31 ?_
      refine r_iand dX9_pairAt_32 ?_
      exact r_ireturn dX9_pairAt_33 rfl ⟨k0, _, rfl, (r32_and _ _), h11⟩
    · have h12 := h6.2 c8
      refine r_iconst dX9_pairAt_16 ?_
      refine r_goto (t := 33) dX9_pairAt_17 rfl ?_
      exact r_ireturn dX9_pairAt_33 rfl ⟨k0, _, rfl, (r32c rfl), h12⟩
/-! StoneRoom.clockOf -/
theorem dX9_clockOf_0 : decode M_X9_clockOf.2.1 0 = .ok (.iload_n 1, 1) := by decide +kernel
theorem dX9_clockOf_1 : decode M_X9_clockOf.2.1 1 = .ok (.iconst 1, 1) := by decide +kernel
theorem dX9_clockOf_2 : decode M_X9_clockOf.2.1 2 = .ok (.if_icmp .ne 10, 3) := by decide +kernel
theorem dX9_clockOf_5 : decode M_X9_clockOf.2.1 5 = .ok (.aload_n 0, 1) := by decide +kernel
theorem dX9_clockOf_6 : decode M_X9_clockOf.2.1 6 = .ok (.getfield 87, 3) := by decide +kernel
theorem dX9_clockOf_9 : decode M_X9_clockOf.2.1 9 = .ok (.goto 7, 3) := by decide +kernel
theorem dX9_clockOf_12 : decode M_X9_clockOf.2.1 12 = .ok (.aload_n 0, 1) := by decide +kernel
theorem dX9_clockOf_13 : decode M_X9_clockOf.2.1 13 = .ok (.getfield 91, 3) := by decide +kernel
theorem dX9_clockOf_16 : decode M_X9_clockOf.2.1 16 = .ok (.areturn, 1) := by decide +kernel
theorem w_X9_clockOf {X : ZX} {d n : Nat} {P : Nat → ZSto → Prop} {x1 : Int} {σ : ZSto} (hn : 73 ≤ n)  (hx1 : R32 x1)
    (h : (¬ x1 = 1 → P 72 σ) ∧ (x1 = 1 → P 71 σ)) :
    ZkR X M_X9_clockOf (d + 1) n [.ref (zB X + 0), iV x1] σ P := by
  refine zk_of (ls := [some (.ref (zB X + 0)), some (iV x1)]) pl_RX9 (Nat.le_of_ble_eq_true rfl) rfl (fun k0 => ?_)
  unfold Zn
  refine r_iload_n dX9_clockOf_0 rfl ?_
  refine r_iconst dX9_clockOf_1 ?_
  refine r_icmp_ne (t := 12) dX9_clockOf_2 rfl hx1 (r32c rfl) (fun c1 => ?_) (fun c2 => ?_)
  · have h3 := h.1 c1
    refine r_aload_n dX9_clockOf_12 rfl ?_
    refine r_getP (a := 72) dX9_clockOf_13 kf_RX9_91 (zlt hn rfl) sh_0 rfl (k0.1 _ _ _ (zlt hn rfl) p_0_12) ?_
    exact r_areturn dX9_clockOf_16 rfl ⟨k0, _, rfl, h3⟩
  · have h4 := h.2 c2
    refine r_aload_n dX9_clockOf_5 rfl ?_
    refine r_getP (a := 71) dX9_clockOf_6 kf_RX9_87 (zlt hn rfl) sh_0 rfl (k0.1 _ _ _ (zlt hn rfl) p_0_11) ?_
    refine r_goto (t := 16) dX9_clockOf_9 rfl ?_
    exact r_areturn dX9_clockOf_16 rfl ⟨k0, _, rfl, h4⟩
/-! StoneRoom.startGame -/
theorem dX9_startGame_0 : decode M_X9_startGame.2.1 0 = .ok (.aload_n 0, 1) := by decide +kernel
theorem dX9_startGame_1 : decode M_X9_startGame.2.1 1 = .ok (.getfield 10, 3) := by decide +kernel
theorem dX9_startGame_4 : decode M_X9_startGame.2.1 4 = .ok (.iload_n 1, 1) := by decide +kernel
theorem dX9_startGame_5 : decode M_X9_startGame.2.1 5 = .ok (.iload_n 2, 1) := by decide +kernel
theorem dX9_startGame_6 : decode M_X9_startGame.2.1 6 = .ok (.invokevirtual 260, 3) := by decide +kernel
theorem dX9_startGame_9 : decode M_X9_startGame.2.1 9 = .ok (.aload_n 0, 1) := by decide +kernel
theorem dX9_startGame_10 : decode M_X9_startGame.2.1 10 = .ok (.getfield 34, 3) := by decide +kernel
theorem dX9_startGame_13 : decode M_X9_startGame.2.1 13 = .ok (.iload_n 1, 1) := by decide +kernel
theorem dX9_startGame_14 : decode M_X9_startGame.2.1 14 = .ok (.invokevirtual 122, 3) := by decide +kernel
theorem dX9_startGame_17 : decode M_X9_startGame.2.1 17 = .ok (.aload_n 0, 1) := by decide +kernel
theorem dX9_startGame_18 : decode M_X9_startGame.2.1 18 = .ok (.getfield 10, 3) := by decide +kernel
theorem dX9_startGame_21 : decode M_X9_startGame.2.1 21 = .ok (.iconst (-1), 1) := by decide +kernel
theorem dX9_startGame_22 : decode M_X9_startGame.2.1 22 = .ok (.iconst 1, 1) := by decide +kernel
theorem dX9_startGame_23 : decode M_X9_startGame.2.1 23 = .ok (.aload_n 0, 1) := by decide +kernel
theorem dX9_startGame_24 : decode M_X9_startGame.2.1 24 = .ok (.getfield 34, 3) := by decide +kernel
theorem dX9_startGame_27 : decode M_X9_startGame.2.1 27 = .ok (.invokevirtual 263, 3) := by decide +kernel
theorem dX9_startGame_30 : decode M_X9_startGame.2.1 30 = .ok (.pop, 1) := by decide +kernel
theorem dX9_startGame_31 : decode M_X9_startGame.2.1 31 = .ok (.aload_n 0, 1) := by decide +kernel
theorem dX9_startGame_32 : decode M_X9_startGame.2.1 32 = .ok (.iconst 0, 1) := by decide +kernel
theorem dX9_startGame_33 : decode M_X9_startGame.2.1 33 = .ok (.invokevirtual 125, 3) := by decide +kernel
theorem dX9_startGame_36 : decode M_X9_startGame.2.1 36 = .ok (.return_, 1) := by decide +kernel
theorem w_X9_startGame {X : ZX} {d n : Nat} {P : ZSto → Prop} {x1 : Int} {x2 : Int} {σ : ZSto} (hn : 73 ≤ n)  (hx1 : R32 x1) (hx2 : R32 x2)
    (h : (∃ t1, gP σ 0 0 = some t1 ∧ zIsT t1 ∧ ZkV X M_X7_clear d n [.ref (zB X + t1), iV x1, iV x2] σ (fun σ6 => ZkV X M_X0_shape d n [.ref (zB X + 33), iV x1] σ6 (fun σ11 => (∃ t15, gP σ11 0 0 = some t15 ∧ zIsT t15 ∧ ZkI X M_X7_addSets d n [.ref (zB X + t15), iV ((-1)), iV 1, .ref (zB X + 33)] σ11 (fun v19 σ20 => ZkV X M_X9_moveTo d n [.ref (zB X + 0), iV 0] σ20 (fun σ25 => P σ25))))))) :
    ZkV X M_X9_startGame (d + 1) n [.ref (zB X + 0), iV x1, iV x2] σ P := by
  refine zk_of (ls := [some (.ref (zB X + 0)), some (iV x1), some (iV x2)]) pl_RX9 (Nat.le_of_ble_eq_true rfl) rfl (fun k0 => ?_)
  unfold Zn
  refine r_aload_n dX9_startGame_0 rfl ?_
  obtain ⟨t1, h2, h3, h4⟩ := h
  refine r_getP (a := t1) dX9_startGame_1 kf_RX9_10 (zlt hn rfl) sh_0 rfl h2 ?_
  refine r_iload_n dX9_startGame_4 rfl ?_
  refine r_iload_n dX9_startGame_5 rfl ?_
  refine n_callV (N := M_X7_clear) (As := [iV x1, iV x2]) (st := []) dX9_startGame_6 mk_X7_clear km_RX9_260 kd_X7_clear rfl (zT_lt h3 hn) (zT_s h3) (q := (RX7, TX7, 17)) rfl rfl (zFits_rm d n n n (Nat.le_refl n)) (Nat.le_of_ble_eq_true rfl) rfl k0 h4 ?_
  rintro _ σ6 k7 ⟨rfl, h9⟩
  change Zm _ _ _ _ _ _ 9 _ [] _
  refine r_aload_n dX9_startGame_9 rfl ?_
  refine r_getP (a := 33) dX9_startGame_10 kf_RX9_34 (zlt hn rfl) sh_0 rfl (k7.1 _ _ _ (zlt hn rfl) p_0_4) ?_
  refine r_iload_n dX9_startGame_13 rfl ?_
  refine n_callV (N := M_X0_shape) (As := [iV x1]) (st := []) dX9_startGame_14 mk_X0_shape km_RX9_122 kd_X0_shape rfl (zlt hn rfl) sh_33 (q := (RX0, TX0, 13)) rfl rfl (zFits_rm d n n n (Nat.le_refl n)) (Nat.le_of_ble_eq_true rfl) rfl k7 h9 ?_
  rintro _ σ11 k12 ⟨rfl, h14⟩
  change Zm _ _ _ _ _ _ 17 _ [] _
  refine r_aload_n dX9_startGame_17 rfl ?_
  obtain ⟨t15, h16, h17, h18⟩ := h14
  refine r_getP (a := t15) dX9_startGame_18 kf_RX9_10 (zlt hn rfl) sh_0 rfl h16 ?_
  refine r_iconst dX9_startGame_21 ?_
  refine r_iconst dX9_startGame_22 ?_
  refine r_aload_n dX9_startGame_23 rfl ?_
  refine r_getP (a := 33) dX9_startGame_24 kf_RX9_34 (zlt hn rfl) sh_0 rfl (k12.1 _ _ _ (zlt hn rfl) p_0_4) ?_
  refine n_callV (N := M_X7_addSets) (As := [iV ((-1)), iV 1, .ref (zB X + 33)]) (st := []) dX9_startGame_27 mk_X7_addSets km_RX9_263 kd_X7_addSets rfl (zT_lt h17 hn) (zT_s h17) (q := (RX7, TX7, 17)) rfl rfl (zFits_rm d n n n (Nat.le_refl n)) (Nat.le_of_ble_eq_true rfl) rfl k12 h18 ?_
  rintro _ σ20 k21 ⟨v19, rfl, h22, h23⟩
  change Zm _ _ _ _ _ _ 30 _ [iV v19] _
  refine r_pop dX9_startGame_30 rfl ?_
  refine r_aload_n dX9_startGame_31 rfl ?_
  refine r_iconst dX9_startGame_32 ?_
  refine n_callV (N := M_X9_moveTo) (As := [iV 0]) (st := []) dX9_startGame_33 mk_X9_moveTo km_RX9_125 kd_X9_moveTo rfl (zlt hn rfl) sh_0 (q := (RX9, TX9, 14)) rfl rfl (zFits_rm d n n n (Nat.le_refl n)) (Nat.le_of_ble_eq_true rfl) rfl k21 h23 ?_
  rintro _ σ25 k26 ⟨rfl, h28⟩
  change Zm _ _ _ _ _ _ 36 _ [] _
  exact r_return dX9_startGame_36 rfl ⟨k26, rfl, h28⟩
/-! StoneRoom.moveTo -/
theorem dX9_moveTo_0 : decode M_X9_moveTo.2.1 0 = .ok (.aload_n 0, 1) := by decide +kernel
theorem dX9_moveTo_1 : decode M_X9_moveTo.2.1 1 = .ok (.getfield 10, 3) := by decide +kernel
theorem dX9_moveTo_4 : decode M_X9_moveTo.2.1 4 = .ok (.iload_n 1, 1) := by decide +kernel
theorem dX9_moveTo_5 : decode M_X9_moveTo.2.1 5 = .ok (.invokevirtual 166, 3) := by decide +kernel
theorem dX9_moveTo_8 : decode M_X9_moveTo.2.1 8 = .ok (.ifCond .eq 35, 3) := by decide +kernel
theorem dX9_moveTo_11 : decode M_X9_moveTo.2.1 11 = .ok (.aload_n 0, 1) := by decide +kernel
theorem dX9_moveTo_12 : decode M_X9_moveTo.2.1 12 = .ok (.getfield 10, 3) := by decide +kernel
theorem dX9_moveTo_15 : decode M_X9_moveTo.2.1 15 = .ok (.iload_n 1, 1) := by decide +kernel
theorem dX9_moveTo_16 : decode M_X9_moveTo.2.1 16 = .ok (.putfield 142, 3) := by decide +kernel
theorem dX9_moveTo_19 : decode M_X9_moveTo.2.1 19 = .ok (.aload_n 0, 1) := by decide +kernel
theorem dX9_moveTo_20 : decode M_X9_moveTo.2.1 20 = .ok (.getfield 34, 3) := by decide +kernel
theorem dX9_moveTo_23 : decode M_X9_moveTo.2.1 23 = .ok (.aload_n 0, 1) := by decide +kernel
theorem dX9_moveTo_24 : decode M_X9_moveTo.2.1 24 = .ok (.getfield 10, 3) := by decide +kernel
theorem dX9_moveTo_27 : decode M_X9_moveTo.2.1 27 = .ok (.getfield 267, 3) := by decide +kernel
theorem dX9_moveTo_30 : decode M_X9_moveTo.2.1 30 = .ok (.iload_n 1, 1) := by decide +kernel
theorem dX9_moveTo_31 : decode M_X9_moveTo.2.1 31 = .ok (.iconst 3, 1) := by decide +kernel
theorem dX9_moveTo_32 : decode M_X9_moveTo.2.1 32 = .ok (.imul, 1) := by decide +kernel
theorem dX9_moveTo_33 : decode M_X9_moveTo.2.1 33 = .ok (.invokevirtual 271, 3) := by decide +kernel
theorem dX9_moveTo_36 : decode M_X9_moveTo.2.1 36 = .ok (.aload_n 0, 1) := by decide +kernel
theorem dX9_moveTo_37 : decode M_X9_moveTo.2.1 37 = .ok (.getfield 80, 3) := by decide +kernel
theorem dX9_moveTo_40 : decode M_X9_moveTo.2.1 40 = .ok (.invokevirtual 275, 3) := by decide +kernel
theorem dX9_moveTo_43 : decode M_X9_moveTo.2.1 43 = .ok (.return_, 1) := by decide +kernel
theorem w_X9_moveTo {X : ZX} {d n : Nat} {P : ZSto → Prop} {x1 : Int} {σ : ZSto} (hn : 73 ≤ n)  (hx1 : R32 x1)
    (h : (∃ t1, gP σ 0 0 = some t1 ∧ zIsT t1 ∧ ZkZ X M_X7_has d n [.ref (zB X + t1), iV x1] σ (fun v5 σ6 => (v5 = 0 → P σ6) ∧ (¬ (v5 = 0) → (∃ t14, gP σ6 0 0 = some t14 ∧ zIsT t14 ∧ ZkV X M_X0_load d n [.ref (zB X + 33), .ref (zB X + (t14 + 12)), iV (x1 * 3)] (sI σ6 t14 16 x1) (fun σ20 => ZkV X M_X6_forgetDead d n [.ref (zB X + 67)] σ20 (fun σ25 => P σ25))))))) :
    ZkV X M_X9_moveTo (d + 1) n [.ref (zB X + 0), iV x1] σ P := by
  refine zk_of (ls := [some (.ref (zB X + 0)), some (iV x1)]) pl_RX9 (Nat.le_of_ble_eq_true rfl) rfl (fun k0 => ?_)
  unfold Zn
  refine r_aload_n dX9_moveTo_0 rfl ?_
  obtain ⟨t1, h2, h3, h4⟩ := h
  refine r_getP (a := t1) dX9_moveTo_1 kf_RX9_10 (zlt hn rfl) sh_0 rfl h2 ?_
  refine r_iload_n dX9_moveTo_4 rfl ?_
  refine n_callV (N := M_X7_has) (As := [iV x1]) (st := []) dX9_moveTo_5 mk_X7_has km_RX9_166 kd_X7_has rfl (zT_lt h3 hn) (zT_s h3) (q := (RX7, TX7, 17)) rfl rfl (zFits_rm d n n n (Nat.le_refl n)) (Nat.le_of_ble_eq_true rfl) rfl k0 h4 ?_
  rintro _ σ6 k7 ⟨v5, rfl, h8, h9⟩
  change Zm _ _ _ _ _ _ 8 _ [iV v5] _
  refine r_if_eq (t := 43) dX9_moveTo_8 rfl (r32_z h8)  (fun c10 => ?_) (fun c11 => ?_)
  · have h12 := h9.1 c10
    exact r_return dX9_moveTo_43 rfl ⟨k7, rfl, h12⟩
  · have h13 := h9.2 c11
    refine r_aload_n dX9_moveTo_11 rfl ?_
    obtain ⟨t14, h15, h16, h17⟩ := h13
    refine r_getP (a := t14) dX9_moveTo_12 kf_RX9_10 (zlt hn rfl) sh_0 rfl h15 ?_
    refine r_iload_n dX9_moveTo_15 rfl ?_
    refine r_putI dX9_moveTo_16 kf_RX9_142 (zT_lt h16 hn) (zT_s h16) rfl (Or.inl rfl) ?_
    have k18 := zok_o (i := 16) (x := x1) k7 (zT_s h16) hx1
    refine r_aload_n dX9_moveTo_19 rfl ?_
    refine r_getP (a := 33) dX9_moveTo_20 kf_RX9_34 (zlt hn rfl) sh_0 rfl (k18.1 _ _ _ (zlt hn rfl) p_0_4) ?_
    refine r_aload_n dX9_moveTo_23 rfl ?_
    refine r_getP (a := t14) dX9_moveTo_24 kf_RX9_10 (zlt hn rfl) sh_0 rfl h15 ?_
    refine r_getP (a := (t14 + 12)) dX9_moveTo_27 kf_RX9_267 (zT_lt h16 hn) (zT_s h16) rfl (k18.1 _ _ _ (zT_lt h16 hn) (zT_p11 h16)) ?_
    refine r_iload_n dX9_moveTo_30 rfl ?_
    refine r_iconst dX9_moveTo_31 ?_
    refine r_imul dX9_moveTo_32 ?_
    refine n_callV (N := M_X0_load) (As := [.ref (zB X + (t14 + 12)), iV (x1 * 3)]) (st := []) dX9_moveTo_33 mk_X0_load km_RX9_271 kd_X0_load rfl (zlt hn rfl) sh_33 (q := (RX0, TX0, 13)) rfl rfl (zFits_rm d n n n (Nat.le_refl n)) (Nat.le_of_ble_eq_true rfl) rfl k18 h17 ?_
    rintro _ σ20 k21 ⟨rfl, h23⟩
    change Zm _ _ _ _ _ _ 36 _ [] _
    refine r_aload_n dX9_moveTo_36 rfl ?_
    refine r_getP (a := 67) dX9_moveTo_37 kf_RX9_80 (zlt hn rfl) sh_0 rfl (k21.1 _ _ _ (zlt hn rfl) p_0_10) ?_
    refine n_callV (N := M_X6_forgetDead) (As := []) (st := []) dX9_moveTo_40 mk_X6_forgetDead km_RX9_275 kd_X6_forgetDead rfl (zlt hn rfl) sh_67 (q := (RX6, TX6, 5)) rfl rfl (zFits_rm d n n n (Nat.le_refl n)) (Nat.le_of_ble_eq_true rfl) rfl k21 h23 ?_
    rintro _ σ25 k26 ⟨rfl, h28⟩
    change Zm _ _ _ _ _ _ 43 _ [] _
    exact r_return dX9_moveTo_43 rfl ⟨k26, rfl, h28⟩
/-! StoneRoom.statusOf -/
theorem dX9_statusOf_0 : decode M_X9_statusOf.2.1 0 = .ok (.aload_n 0, 1) := by decide +kernel
theorem dX9_statusOf_1 : decode M_X9_statusOf.2.1 1 = .ok (.getfield 10, 3) := by decide +kernel
theorem dX9_statusOf_4 : decode M_X9_statusOf.2.1 4 = .ok (.aload_n 0, 1) := by decide +kernel
theorem dX9_statusOf_5 : decode M_X9_statusOf.2.1 5 = .ok (.getfield 10, 3) := by decide +kernel
theorem dX9_statusOf_8 : decode M_X9_statusOf.2.1 8 = .ok (.getfield 142, 3) := by decide +kernel
theorem dX9_statusOf_11 : decode M_X9_statusOf.2.1 11 = .ok (.invokevirtual 145, 3) := by decide +kernel
theorem dX9_statusOf_14 : decode M_X9_statusOf.2.1 14 = .ok (.istore_n 2, 1) := by decide +kernel
theorem dX9_statusOf_15 : decode M_X9_statusOf.2.1 15 = .ok (.iload_n 1, 1) := by decide +kernel
theorem dX9_statusOf_16 : decode M_X9_statusOf.2.1 16 = .ok (.iconst (-1), 1) := by decide +kernel
theorem dX9_statusOf_17 : decode M_X9_statusOf.2.1 17 = .ok (.if_icmp .eq 16, 3) := by decide +kernel
theorem dX9_statusOf_20 : decode M_X9_statusOf.2.1 20 = .ok (.aload_n 0, 1) := by decide +kernel
theorem dX9_statusOf_21 : decode M_X9_statusOf.2.1 21 = .ok (.iload_n 1, 1) := by decide +kernel
theorem dX9_statusOf_22 : decode M_X9_statusOf.2.1 22 = .ok (.iload_n 2, 1) := by decide +kernel
theorem dX9_statusOf_23 : decode M_X9_statusOf.2.1 23 = .ok (.invokevirtual 278, 3) := by decide +kernel
theorem dX9_statusOf_26 : decode M_X9_statusOf.2.1 26 = .ok (.istore_n 3, 1) := by decide +kernel
theorem dX9_statusOf_27 : decode M_X9_statusOf.2.1 27 = .ok (.iload_n 3, 1) := by decide +kernel
theorem dX9_statusOf_28 : decode M_X9_statusOf.2.1 28 = .ok (.ifCond .eq 5, 3) := by decide +kernel
theorem dX9_statusOf_31 : decode M_X9_statusOf.2.1 31 = .ok (.iload_n 3, 1) := by decide +kernel
theorem dX9_statusOf_32 : decode M_X9_statusOf.2.1 32 = .ok (.ireturn, 1) := by decide +kernel
theorem dX9_statusOf_33 : decode M_X9_statusOf.2.1 33 = .ok (.aload_n 0, 1) := by decide +kernel
theorem dX9_statusOf_34 : decode M_X9_statusOf.2.1 34 = .ok (.getfield 10, 3) := by decide +kernel
theorem dX9_statusOf_37 : decode M_X9_statusOf.2.1 37 = .ok (.aload_n 0, 1) := by decide +kernel
theorem dX9_statusOf_38 : decode M_X9_statusOf.2.1 38 = .ok (.getfield 10, 3) := by decide +kernel
theorem dX9_statusOf_41 : decode M_X9_statusOf.2.1 41 = .ok (.getfield 142, 3) := by decide +kernel
theorem dX9_statusOf_44 : decode M_X9_statusOf.2.1 44 = .ok (.invokevirtual 250, 3) := by decide +kernel
theorem dX9_statusOf_47 : decode M_X9_statusOf.2.1 47 = .ok (.ifCond .eq 5, 3) := by decide +kernel
theorem dX9_statusOf_50 : decode M_X9_statusOf.2.1 50 = .ok (.iconst 5, 1) := by decide +kernel
theorem dX9_statusOf_51 : decode M_X9_statusOf.2.1 51 = .ok (.ireturn, 1) := by decide +kernel
theorem dX9_statusOf_52 : decode M_X9_statusOf.2.1 52 = .ok (.aload_n 0, 1) := by decide +kernel
theorem dX9_statusOf_53 : decode M_X9_statusOf.2.1 53 = .ok (.getfield 10, 3) := by decide +kernel
theorem dX9_statusOf_56 : decode M_X9_statusOf.2.1 56 = .ok (.getfield 247, 3) := by decide +kernel
theorem dX9_statusOf_59 : decode M_X9_statusOf.2.1 59 = .ok (.sipush 250, 3) := by decide +kernel
theorem dX9_statusOf_62 : decode M_X9_statusOf.2.1 62 = .ok (.if_icmp .lt 26, 3) := by decide +kernel
theorem dX9_statusOf_65 : decode M_X9_statusOf.2.1 65 = .ok (.aload_n 0, 1) := by decide +kernel
theorem dX9_statusOf_66 : decode M_X9_statusOf.2.1 66 = .ok (.getfield 10, 3) := by decide +kernel
theorem dX9_statusOf_69 : decode M_X9_statusOf.2.1 69 = .ok (.aload_n 0, 1) := by decide +kernel
theorem dX9_statusOf_70 : decode M_X9_statusOf.2.1 70 = .ok (.getfield 10, 3) := by decide +kernel
theorem dX9_statusOf_73 : decode M_X9_statusOf.2.1 73 = .ok (.getfield 142, 3) := by decide +kernel
theorem dX9_statusOf_76 : decode M_X9_statusOf.2.1 76 = .ok (.iload_n 2, 1) := by decide +kernel
theorem dX9_statusOf_77 : decode M_X9_statusOf.2.1 77 = .ok (.iload_n 1, 1) := by decide +kernel
theorem dX9_statusOf_78 : decode M_X9_statusOf.2.1 78 = .ok (.invokevirtual 148, 3) := by decide +kernel
theorem dX9_statusOf_81 : decode M_X9_statusOf.2.1 81 = .ok (.iconst (-1), 1) := by decide +kernel
theorem dX9_statusOf_82 : decode M_X9_statusOf.2.1 82 = .ok (.if_icmp .ne 6, 3) := by decide +kernel
theorem dX9_statusOf_85 : decode M_X9_statusOf.2.1 85 = .ok (.bipush 6, 2) := by decide +kernel
theorem dX9_statusOf_87 : decode M_X9_statusOf.2.1 87 = .ok (.ireturn, 1) := by decide +kernel
theorem dX9_statusOf_88 : decode M_X9_statusOf.2.1 88 = .ok (.iconst 0, 1) := by decide +kernel
theorem dX9_statusOf_89 : decode M_X9_statusOf.2.1 89 = .ok (.ireturn, 1) := by decide +kernel
def L_X9_statusOf_33 (X : ZX) (d n : Nat) (P : Option Value → ZSto → Prop) (x1 : Int) (x2 : Int) (σ : ZSto) : Prop := R32 x1 → R32 x2 → ZOk n σ → Zn X M_X9_statusOf d n P 33 [some (.ref (zB X + 0)), some (iV x1), some (iV x2), none] [] σ
theorem w_X9_statusOf {X : ZX} {d n : Nat} {P : Int → ZSto → Prop} {x1 : Int} {σ : ZSto} (hn : 73 ≤ n)  (hx1 : R32 x1)
    (h : (∃ t1, gP σ 0 0 = some t1 ∧ zIsT t1 ∧ ZkI X M_X7_turnAt d n [.ref (zB X + t1), iV (gI σ t1 16)] σ (fun v5 σ6 => (x1 = (-1) → L_X9_statusOf_33 X d n (zpI P) x1 v5 σ6) ∧ (¬ (x1 = (-1)) → ZkI X M_X9_boardStatus d n [.ref (zB X + 0), iV x1, iV v5] σ6 (fun v14 σ15 => (v14 = 0 → L_X9_statusOf_33 X d n (zpI P) x1 v5 σ15) ∧ (¬ (v14 = 0) → P v14 σ15)))))) :
    ZkI X M_X9_statusOf (d + 1) n [.ref (zB X + 0), iV x1] σ P := by
  refine zk_of (ls := [some (.ref (zB X + 0)), some (iV x1), none, none]) pl_RX9 (Nat.le_of_ble_eq_true rfl) rfl (fun k0 => ?_)
  unfold Zn
  refine r_aload_n dX9_statusOf_0 rfl ?_
  obtain ⟨t1, h2, h3, h4⟩ := h
  refine r_getP (a := t1) dX9_statusOf_1 kf_RX9_10 (zlt hn rfl) sh_0 rfl h2 ?_
  refine r_aload_n dX9_statusOf_4 rfl ?_
  refine r_getP (a := t1) dX9_statusOf_5 kf_RX9_10 (zlt hn rfl) sh_0 rfl h2 ?_
  refine r_getI dX9_statusOf_8 kf_RX9_142 (zT_lt h3 hn) (zT_s h3) (Or.inl rfl) rfl ?_
  refine n_callV (N := M_X7_turnAt) (As := [iV (gI σ t1 16)]) (st := []) dX9_statusOf_11 mk_X7_turnAt km_RX9_145 kd_X7_turnAt rfl (zT_lt h3 hn) (zT_s h3) (q := (RX7, TX7, 17)) rfl rfl (zFits_rm d n n n (Nat.le_refl n)) (Nat.le_of_ble_eq_true rfl) rfl k0 h4 ?_
  rintro _ σ6 k7 ⟨v5, rfl, h8, h9⟩
  change Zm _ _ _ _ _ _ 14 _ [iV v5] _
  refine r_istore_n dX9_statusOf_14 rfl rfl ?_
  refine r_iload_n dX9_statusOf_15 rfl ?_
  refine r_iconst dX9_statusOf_16 ?_
  refine r_icmp_eq (t := 33) dX9_statusOf_17 rfl hx1 (r32c rfl) (fun c10 => ?_) (fun c11 => ?_)
  · have h12 := h9.1 c10
    exact r_mask [true, true, true, false] rfl (h12 hx1 h8 k7)
  · have h13 := h9.2 c11
    refine r_aload_n dX9_statusOf_20 rfl ?_
    refine r_iload_n dX9_statusOf_21 rfl ?_
    refine r_iload_n dX9_statusOf_22 rfl ?_
    refine n_callV (N := M_X9_boardStatus) (As := [iV x1, iV v5]) (st := []) dX9_statusOf_23 mk_X9_boardStatus km_RX9_278 kd_X9_boardStatus rfl (zlt hn rfl) sh_0 (q := (RX9, TX9, 14)) rfl rfl (zFits_rm d n n n (Nat.le_refl n)) (Nat.le_of_ble_eq_true rfl) rfl k7 h13 ?_
    rintro _ σ15 k16 ⟨v14, rfl, h17, h18⟩
    change Zm _ _ _ _ _ _ 26 _ [iV v14] _
    refine r_istore_n dX9_statusOf_26 rfl rfl ?_
    refine r_iload_n dX9_statusOf_27 rfl ?_
    refine r_if_eq (t := 33) dX9_statusOf_28 rfl h17  (fun c19 => ?_) (fun c20 => ?_)
    · have h21 := h18.1 c19
      exact r_mask [true, true, true, false] rfl (h21 hx1 h8 k16)
    · have h22 := h18.2 c20
      refine r_iload_n dX9_statusOf_31 rfl ?_
      exact r_ireturn dX9_statusOf_32 rfl ⟨k16, _, rfl, h17, h22⟩
theorem b_X9_statusOf_33 {X : ZX} {d n : Nat} {P : Int → ZSto → Prop} {x1 : Int} {x2 : Int} {σ : ZSto} (hn : 73 ≤ n) 
    (h : (∃ t1, gP σ 0 0 = some t1 ∧ zIsT t1 ∧ ZkZ X M_X7_isOver d n [.ref (zB X + t1), iV (gI σ t1 16)] σ (fun v5 σ6 => (v5 = 0 → (∃ t13, gP σ6 0 0 = some t13 ∧ zIsT t13 ∧ (gI σ6 t13 15 < 250 → P 0 σ6) ∧ (¬ (gI σ6 t13 15 < 250) → ZkI X M_X7_childOf d n [.ref (zB X + t13), iV (gI σ6 t13 16), iV x2, iV x1] σ6 (fun v21 σ22 => (¬ v21 = (-1) → P 0 σ22) ∧ (v21 = (-1) → P 6 σ22))))) ∧ (¬ (v5 = 0) → P 5 σ6)))) :
    L_X9_statusOf_33 X d n (zpI P) x1 x2 σ := by
  intro hx1 hx2 k0
  unfold Zn
  refine r_aload_n dX9_statusOf_33 rfl ?_
  obtain ⟨t1, h2, h3, h4⟩ := h
  refine r_getP (a := t1) dX9_statusOf_34 kf_RX9_10 (zlt hn rfl) sh_0 rfl h2 ?_
  refine r_aload_n dX9_statusOf_37 rfl ?_
  refine r_getP (a := t1) dX9_statusOf_38 kf_RX9_10 (zlt hn rfl) sh_0 rfl h2 ?_
  refine r_getI dX9_statusOf_41 kf_RX9_142 (zT_lt h3 hn) (zT_s h3) (Or.inl rfl) rfl ?_
  refine n_callV (N := M_X7_isOver) (As := [iV (gI σ t1 16)]) (st := []) dX9_statusOf_44 mk_X7_isOver km_RX9_250 kd_X7_isOver rfl (zT_lt h3 hn) (zT_s h3) (q := (RX7, TX7, 17)) rfl rfl (zFits_rm d n n n (Nat.le_refl n)) (Nat.le_of_ble_eq_true rfl) rfl k0 h4 ?_
  rintro _ σ6 k7 ⟨v5, rfl, h8, h9⟩
  change Zm _ _ _ _ _ _ 47 _ [iV v5] _
  refine r_if_eq (t := 52) dX9_statusOf_47 rfl (r32_z h8)  (fun c10 => ?_) (fun c11 => ?_)
  · have h12 := h9.1 c10
    refine r_aload_n dX9_statusOf_52 rfl ?_
    obtain ⟨t13, h14, h15, h16⟩ := h12
    refine r_getP (a := t13) dX9_statusOf_53 kf_RX9_10 (zlt hn rfl) sh_0 rfl h14 ?_
    refine r_getI dX9_statusOf_56 kf_RX9_247 (zT_lt h15 hn) (zT_s h15) (Or.inl rfl) rfl ?_
    refine r_sipush dX9_statusOf_59 rfl ?_
    refine r_icmp_lt (t := 88) dX9_statusOf_62 rfl (k7.2.1 _ _) (r32c rfl) (fun c17 => ?_) (fun c18 => ?_)
    · have h19 := h16.1 c17
      refine r_iconst dX9_statusOf_88 ?_
      exact r_ireturn dX9_statusOf_89 rfl ⟨k7, _, rfl, (r32c rfl), h19⟩
    · have h20 := h16.2 c18
      refine r_aload_n dX9_statusOf_65 rfl ?_
      refine r_getP (a := t13) dX9_statusOf_66 kf_RX9_10 (zlt hn rfl) sh_0 rfl h14 ?_
      refine r_aload_n dX9_statusOf_69 rfl ?_
      refine r_getP (a := t13) dX9_statusOf_70 kf_RX9_10 (zlt hn rfl) sh_0 rfl h14 ?_
      refine r_getI dX9_statusOf_73 kf_RX9_142 (zT_lt h15 hn) (zT_s h15) (Or.inl rfl) rfl ?_
      refine r_iload_n dX9_statusOf_76 rfl ?_
      refine r_iload_n dX9_statusOf_77 rfl ?_
      refine n_callV (N := M_X7_childOf) (As := [iV (gI σ6 t13 16), iV x2, iV x1]) (st := []) dX9_statusOf_78 mk_X7_childOf km_RX9_148 kd_X7_childOf rfl (zT_lt h15 hn) (zT_s h15) (q := (RX7, TX7, 17)) rfl rfl (zFits_rm d n n n (Nat.le_refl n)) (Nat.le_of_ble_eq_true rfl) rfl k7 h20 ?_
      rintro _ σ22 k23 ⟨v21, rfl, h24, h25⟩
      change Zm _ _ _ _ _ _ 81 _ [iV v21] _
      refine r_iconst dX9_statusOf_81 ?_
      refine r_icmp_ne (t := 88) dX9_statusOf_82 rfl h24 (r32c rfl) (fun c26 => ?_) (fun c27 => ?_)
      · have h28 := h25.1 c26
        refine r_iconst dX9_statusOf_88 ?_
        exact r_ireturn dX9_statusOf_89 rfl ⟨k23, _, rfl, (r32c rfl), h28⟩
      · have h29 := h25.2 c27
        refine r_bipush dX9_statusOf_85 rfl ?_
        exact r_ireturn dX9_statusOf_87 rfl ⟨k23, _, rfl, (r32c rfl), h29⟩
  · have h30 := h9.2 c11
    refine r_iconst dX9_statusOf_50 ?_
    exact r_ireturn dX9_statusOf_51 rfl ⟨k7, _, rfl, (r32c rfl), h30⟩
/-! StoneRoom.boardStatus -/
theorem dX9_boardStatus_0 : decode M_X9_boardStatus.2.1 0 = .ok (.aload_n 0, 1) := by decide +kernel
theorem dX9_boardStatus_1 : decode M_X9_boardStatus.2.1 1 = .ok (.getfield 34, 3) := by decide +kernel
theorem dX9_boardStatus_4 : decode M_X9_boardStatus.2.1 4 = .ok (.iload_n 1, 1) := by decide +kernel
theorem dX9_boardStatus_5 : decode M_X9_boardStatus.2.1 5 = .ok (.invokevirtual 203, 3) := by decide +kernel
theorem dX9_boardStatus_8 : decode M_X9_boardStatus.2.1 8 = .ok (.ifCond .ne 5, 3) := by decide +kernel
theorem dX9_boardStatus_11 : decode M_X9_boardStatus.2.1 11 = .ok (.iconst 1, 1) := by decide +kernel
theorem dX9_boardStatus_12 : decode M_X9_boardStatus.2.1 12 = .ok (.ireturn, 1) := by decide +kernel
theorem dX9_boardStatus_13 : decode M_X9_boardStatus.2.1 13 = .ok (.aload_n 0, 1) := by decide +kernel
theorem dX9_boardStatus_14 : decode M_X9_boardStatus.2.1 14 = .ok (.getfield 38, 3) := by decide +kernel
theorem dX9_boardStatus_17 : decode M_X9_boardStatus.2.1 17 = .ok (.aload_n 0, 1) := by decide +kernel
theorem dX9_boardStatus_18 : decode M_X9_boardStatus.2.1 18 = .ok (.getfield 34, 3) := by decide +kernel
theorem dX9_boardStatus_21 : decode M_X9_boardStatus.2.1 21 = .ok (.invokevirtual 152, 3) := by decide +kernel
theorem dX9_boardStatus_24 : decode M_X9_boardStatus.2.1 24 = .ok (.aload_n 0, 1) := by decide +kernel
theorem dX9_boardStatus_25 : decode M_X9_boardStatus.2.1 25 = .ok (.getfield 10, 3) := by decide +kernel
theorem dX9_boardStatus_28 : decode M_X9_boardStatus.2.1 28 = .ok (.aload_n 0, 1) := by decide +kernel
theorem dX9_boardStatus_29 : decode M_X9_boardStatus.2.1 29 = .ok (.getfield 38, 3) := by decide +kernel
theorem dX9_boardStatus_32 : decode M_X9_boardStatus.2.1 32 = .ok (.aload_n 0, 1) := by decide +kernel
theorem dX9_boardStatus_33 : decode M_X9_boardStatus.2.1 33 = .ok (.getfield 10, 3) := by decide +kernel
theorem dX9_boardStatus_36 : decode M_X9_boardStatus.2.1 36 = .ok (.getfield 142, 3) := by decide +kernel
theorem dX9_boardStatus_39 : decode M_X9_boardStatus.2.1 39 = .ok (.iload_n 1, 1) := by decide +kernel
theorem dX9_boardStatus_40 : decode M_X9_boardStatus.2.1 40 = .ok (.iload_n 2, 1) := by decide +kernel
theorem dX9_boardStatus_41 : decode M_X9_boardStatus.2.1 41 = .ok (.aload_n 0, 1) := by decide +kernel
theorem dX9_boardStatus_42 : decode M_X9_boardStatus.2.1 42 = .ok (.getfield 94, 3) := by decide +kernel
theorem dX9_boardStatus_45 : decode M_X9_boardStatus.2.1 45 = .ok (.invokevirtual 281, 3) := by decide +kernel
theorem dX9_boardStatus_48 : decode M_X9_boardStatus.2.1 48 = .ok (.ireturn, 1) := by decide +kernel
theorem w_X9_boardStatus {X : ZX} {d n : Nat} {P : Int → ZSto → Prop} {x1 : Int} {x2 : Int} {σ : ZSto} (hn : 73 ≤ n)  (hx1 : R32 x1) (hx2 : R32 x2)
    (h : ZkZ X M_X0_has d n [.ref (zB X + 33), iV x1] σ (fun v1 σ2 => (¬ v1 = 0 → ZkV X M_X0_copyOf d n [.ref (zB X + 41), .ref (zB X + 33)] σ2 (fun σ10 => (∃ t14, gP σ10 0 0 = some t14 ∧ zIsT t14 ∧ ZkI X M_X7_tryPlay d n [.ref (zB X + t14), .ref (zB X + 41), iV (gI σ10 t14 16), iV x1, iV x2, iV (gI σ10 0 13)] σ10 (fun v18 σ19 => P v18 σ19)))) ∧ (v1 = 0 → P 1 σ2))) :
    ZkI X M_X9_boardStatus (d + 1) n [.ref (zB X + 0), iV x1, iV x2] σ P := by
  refine zk_of (ls := [some (.ref (zB X + 0)), some (iV x1), some (iV x2)]) pl_RX9 (Nat.le_of_ble_eq_true rfl) rfl (fun k0 => ?_)
  unfold Zn
  refine r_aload_n dX9_boardStatus_0 rfl ?_
  refine r_getP (a := 33) dX9_boardStatus_1 kf_RX9_34 (zlt hn rfl) sh_0 rfl (k0.1 _ _ _ (zlt hn rfl) p_0_4) ?_
  refine r_iload_n dX9_boardStatus_4 rfl ?_
  refine n_callV (N := M_X0_has) (As := [iV x1]) (st := []) dX9_boardStatus_5 mk_X0_has km_RX9_203 kd_X0_has rfl (zlt hn rfl) sh_33 (q := (RX0, TX0, 13)) rfl rfl (zFits_rm d n n n (Nat.le_refl n)) (Nat.le_of_ble_eq_true rfl) rfl k0 h ?_
  rintro _ σ2 k3 ⟨v1, rfl, h4, h5⟩
  change Zm _ _ _ _ _ _ 8 _ [iV v1] _
  refine r_if_ne (t := 13) dX9_boardStatus_8 rfl (r32_z h4)  (fun c6 => ?_) (fun c7 => ?_)
  · have h8 := h5.1 c6
    refine r_aload_n dX9_boardStatus_13 rfl ?_
    refine r_getP (a := 41) dX9_boardStatus_14 kf_RX9_38 (zlt hn rfl) sh_0 rfl (k3.1 _ _ _ (zlt hn rfl) p_0_5) ?_
    refine r_aload_n dX9_boardStatus_17 rfl ?_
    refine r_getP (a := 33) dX9_boardStatus_18 kf_RX9_34 (zlt hn rfl) sh_0 rfl (k3.1 _ _ _ (zlt hn rfl) p_0_4) ?_
    refine n_callV (N := M_X0_copyOf) (As := [.ref (zB X + 33)]) (st := []) dX9_boardStatus_21 mk_X0_copyOf km_RX9_152 kd_X0_copyOf rfl (zlt hn rfl) sh_41 (q := (RX0, TX0, 13)) rfl rfl (zFits_rm d n n n (Nat.le_refl n)) (Nat.le_of_ble_eq_true rfl) rfl k3 h8 ?_
    rintro _ σ10 k11 ⟨rfl, h13⟩
    change Zm _ _ _ _ _ _ 24 _ [] _
    refine r_aload_n dX9_boardStatus_24 rfl ?_
    obtain ⟨t14, h15, h16, h17⟩ := h13
    refine r_getP (a := t14) dX9_boardStatus_25 kf_RX9_10 (zlt hn rfl) sh_0 rfl h15 ?_
    refine r_aload_n dX9_boardStatus_28 rfl ?_
    refine r_getP (a := 41) dX9_boardStatus_29 kf_RX9_38 (zlt hn rfl) sh_0 rfl (k11.1 _ _ _ (zlt hn rfl) p_0_5) ?_
    refine r_aload_n dX9_boardStatus_32 rfl ?_
    refine r_getP (a := t14) dX9_boardStatus_33 kf_RX9_10 (zlt hn rfl) sh_0 rfl h15 ?_
    refine r_getI dX9_boardStatus_36 kf_RX9_142 (zT_lt h16 hn) (zT_s h16) (Or.inl rfl) rfl ?_
    refine r_iload_n dX9_boardStatus_39 rfl ?_
    refine r_iload_n dX9_boardStatus_40 rfl ?_
    refine r_aload_n dX9_boardStatus_41 rfl ?_
    refine r_getI dX9_boardStatus_42 kf_RX9_94 (zlt hn rfl) sh_0 (Or.inl rfl) rfl ?_
    refine n_callV (N := M_X7_tryPlay) (As := [.ref (zB X + 41), iV (gI σ10 t14 16), iV x1, iV x2, iV (gI σ10 0 13)]) (st := []) dX9_boardStatus_45 mk_X7_tryPlay km_RX9_281 kd_X7_tryPlay rfl (zT_lt h16 hn) (zT_s h16) (q := (RX7, TX7, 17)) rfl rfl (zFits_rm d n n n (Nat.le_refl n)) (Nat.le_of_ble_eq_true rfl) rfl k11 h17 ?_
    rintro _ σ19 k20 ⟨v18, rfl, h21, h22⟩
    change Zm _ _ _ _ _ _ 48 _ [iV v18] _
    exact r_ireturn dX9_boardStatus_48 rfl ⟨k20, _, rfl, h21, h22⟩
  · have h23 := h5.2 c7
    refine r_iconst dX9_boardStatus_11 ?_
    exact r_ireturn dX9_boardStatus_12 rfl ⟨k3, _, rfl, (r32c rfl), h23⟩
/-! StoneRoom.scoreOf -/
theorem dX9_scoreOf_0 : decode M_X9_scoreOf.2.1 0 = .ok (.iload_n 1, 1) := by decide +kernel
theorem dX9_scoreOf_1 : decode M_X9_scoreOf.2.1 1 = .ok (.invokestatic 285, 3) := by decide +kernel
theorem dX9_scoreOf_4 : decode M_X9_scoreOf.2.1 4 = .ok (.istore_n 3, 1) := by decide +kernel
theorem dX9_scoreOf_5 : decode M_X9_scoreOf.2.1 5 = .ok (.aload_n 0, 1) := by decide +kernel
theorem dX9_scoreOf_6 : decode M_X9_scoreOf.2.1 6 = .ok (.getfield 80, 3) := by decide +kernel
theorem dX9_scoreOf_9 : decode M_X9_scoreOf.2.1 9 = .ok (.invokevirtual 288, 3) := by decide +kernel
theorem dX9_scoreOf_12 : decode M_X9_scoreOf.2.1 12 = .ok (.iload_n 2, 1) := by decide +kernel
theorem dX9_scoreOf_13 : decode M_X9_scoreOf.2.1 13 = .ok (.tableswitch 81 0 2 #[27, 45, 72], 27) := by decide +kernel
theorem dX9_scoreOf_40 : decode M_X9_scoreOf.2.1 40 = .ok (.aload_n 0, 1) := by decide +kernel
theorem dX9_scoreOf_41 : decode M_X9_scoreOf.2.1 41 = .ok (.getfield 80, 3) := by decide +kernel
theorem dX9_scoreOf_44 : decode M_X9_scoreOf.2.1 44 = .ok (.iload_n 1, 1) := by decide +kernel
theorem dX9_scoreOf_45 : decode M_X9_scoreOf.2.1 45 = .ok (.invokevirtual 291, 3) := by decide +kernel
theorem dX9_scoreOf_48 : decode M_X9_scoreOf.2.1 48 = .ok (.aload_n 0, 1) := by decide +kernel
theorem dX9_scoreOf_49 : decode M_X9_scoreOf.2.1 49 = .ok (.getfield 80, 3) := by decide +kernel
theorem dX9_scoreOf_52 : decode M_X9_scoreOf.2.1 52 = .ok (.iload_n 1, 1) := by decide +kernel
theorem dX9_scoreOf_53 : decode M_X9_scoreOf.2.1 53 = .ok (.invokevirtual 294, 3) := by decide +kernel
theorem dX9_scoreOf_56 : decode M_X9_scoreOf.2.1 56 = .ok (.iadd, 1) := by decide +kernel
theorem dX9_scoreOf_57 : decode M_X9_scoreOf.2.1 57 = .ok (.ireturn, 1) := by decide +kernel
theorem dX9_scoreOf_58 : decode M_X9_scoreOf.2.1 58 = .ok (.aload_n 0, 1) := by decide +kernel
theorem dX9_scoreOf_59 : decode M_X9_scoreOf.2.1 59 = .ok (.getfield 80, 3) := by decide +kernel
theorem dX9_scoreOf_62 : decode M_X9_scoreOf.2.1 62 = .ok (.iload_n 1, 1) := by decide +kernel
theorem dX9_scoreOf_63 : decode M_X9_scoreOf.2.1 63 = .ok (.invokevirtual 294, 3) := by decide +kernel
theorem dX9_scoreOf_66 : decode M_X9_scoreOf.2.1 66 = .ok (.aload_n 0, 1) := by decide +kernel
theorem dX9_scoreOf_67 : decode M_X9_scoreOf.2.1 67 = .ok (.getfield 10, 3) := by decide +kernel
theorem dX9_scoreOf_70 : decode M_X9_scoreOf.2.1 70 = .ok (.iload_n 1, 1) := by decide +kernel
theorem dX9_scoreOf_71 : decode M_X9_scoreOf.2.1 71 = .ok (.invokevirtual 297, 3) := by decide +kernel
theorem dX9_scoreOf_74 : decode M_X9_scoreOf.2.1 74 = .ok (.iadd, 1) := by decide +kernel
theorem dX9_scoreOf_75 : decode M_X9_scoreOf.2.1 75 = .ok (.aload_n 0, 1) := by decide +kernel
theorem dX9_scoreOf_76 : decode M_X9_scoreOf.2.1 76 = .ok (.getfield 80, 3) := by decide +kernel
theorem dX9_scoreOf_79 : decode M_X9_scoreOf.2.1 79 = .ok (.iload_n 3, 1) := by decide +kernel
theorem dX9_scoreOf_80 : decode M_X9_scoreOf.2.1 80 = .ok (.invokevirtual 300, 3) := by decide +kernel
theorem dX9_scoreOf_83 : decode M_X9_scoreOf.2.1 83 = .ok (.iadd, 1) := by decide +kernel
theorem dX9_scoreOf_84 : decode M_X9_scoreOf.2.1 84 = .ok (.ireturn, 1) := by decide +kernel
theorem dX9_scoreOf_85 : decode M_X9_scoreOf.2.1 85 = .ok (.aload_n 0, 1) := by decide +kernel
theorem dX9_scoreOf_86 : decode M_X9_scoreOf.2.1 86 = .ok (.getfield 10, 3) := by decide +kernel
theorem dX9_scoreOf_89 : decode M_X9_scoreOf.2.1 89 = .ok (.iload_n 1, 1) := by decide +kernel
theorem dX9_scoreOf_90 : decode M_X9_scoreOf.2.1 90 = .ok (.invokevirtual 297, 3) := by decide +kernel
theorem dX9_scoreOf_93 : decode M_X9_scoreOf.2.1 93 = .ok (.ireturn, 1) := by decide +kernel
theorem dX9_scoreOf_94 : decode M_X9_scoreOf.2.1 94 = .ok (.aload_n 0, 1) := by decide +kernel
theorem dX9_scoreOf_95 : decode M_X9_scoreOf.2.1 95 = .ok (.getfield 80, 3) := by decide +kernel
theorem dX9_scoreOf_98 : decode M_X9_scoreOf.2.1 98 = .ok (.iload_n 1, 1) := by decide +kernel
theorem dX9_scoreOf_99 : decode M_X9_scoreOf.2.1 99 = .ok (.invokevirtual 300, 3) := by decide +kernel
theorem dX9_scoreOf_102 : decode M_X9_scoreOf.2.1 102 = .ok (.ireturn, 1) := by decide +kernel
theorem w_X9_scoreOf {X : ZX} {d n : Nat} {P : Int → ZSto → Prop} {x1 : Int} {x2 : Int} {σ : ZSto} (hn : 73 ≤ n)  (hx1 : R32 x1) (hx2 : R32 x2)
    (h : ZkI X M_X9_otherColour d n [iV x1] σ (fun v1 σ2 => ZkV X M_X6_survey d n [.ref (zB X + 67)] σ2 (fun σ7 => (x2 = 0 → ZkI X M_X6_standingOf d n [.ref (zB X + 67), iV x1] σ7 (fun v13 σ14 => ZkI X M_X6_landOf d n [.ref (zB X + 67), iV x1] σ14 (fun v18 σ19 => R32 (v13 + v18) ∧ P (v13 + v18) σ19))) ∧ (x2 = 1 → ZkI X M_X6_landOf d n [.ref (zB X + 67), iV x1] σ7 (fun v27 σ28 => (∃ t32, gP σ28 0 0 = some t32 ∧ zIsT t32 ∧ ZkI X M_X7_takenBy d n [.ref (zB X + t32), iV x1] σ28 (fun v36 σ37 => ZkI X M_X6_deadOf d n [.ref (zB X + 67), iV v1] σ37 (fun v41 σ42 => R32 ((v27 + v36) + v41) ∧ P ((v27 + v36) + v41) σ42))))) ∧ (x2 = 2 → (∃ t50, gP σ7 0 0 = some t50 ∧ zIsT t50 ∧ ZkI X M_X7_takenBy d n [.ref (zB X + t50), iV x1] σ7 (fun v54 σ55 => P v54 σ55))) ∧ ((x2 < 0 ∨ 2 < x2) → ZkI X M_X6_deadOf d n [.ref (zB X + 67), iV x1] σ7 (fun v60 σ61 => P v60 σ61))))) :
    ZkI X M_X9_scoreOf (d + 1) n [.ref (zB X + 0), iV x1, iV x2] σ P := by
  refine zk_of (ls := [some (.ref (zB X + 0)), some (iV x1), some (iV x2), none]) pl_RX9 (Nat.le_of_ble_eq_true rfl) rfl (fun k0 => ?_)
  unfold Zn
  refine r_iload_n dX9_scoreOf_0 rfl ?_
  refine n_callS (N := M_X9_otherColour) (As := [iV x1]) (st := []) dX9_scoreOf_1 mk_X9_otherColour km_RX9_285 kd_X9_otherColour rfl (zFits_rm d n n n (Nat.le_refl n)) (Nat.le_of_ble_eq_true rfl) rfl k0 h ?_
  rintro _ σ2 k3 ⟨v1, rfl, h4, h5⟩
  change Zm _ _ _ _ _ _ 4 _ [iV v1] _
  refine r_istore_n dX9_scoreOf_4 rfl rfl ?_
  refine r_aload_n dX9_scoreOf_5 rfl ?_
  refine r_getP (a := 67) dX9_scoreOf_6 kf_RX9_80 (zlt hn rfl) sh_0 rfl (k3.1 _ _ _ (zlt hn rfl) p_0_10) ?_
  refine n_callV (N := M_X6_survey) (As := []) (st := []) dX9_scoreOf_9 mk_X6_survey km_RX9_288 kd_X6_survey rfl (zlt hn rfl) sh_67 (q := (RX6, TX6, 5)) rfl rfl (zFits_rm d n n n (Nat.le_refl n)) (Nat.le_of_ble_eq_true rfl) rfl k3 h5 ?_
  rintro _ σ7 k8 ⟨rfl, h10⟩
  change Zm _ _ _ _ _ _ 12 _ [] _
  refine r_iload_n dX9_scoreOf_12 rfl ?_
  by_cases c11 : x2 = 0
  · have h12 := h10.1 c11
    refine r_tabIn (t := 40) dX9_scoreOf_13 hx2 (by rw [c11]; decide) (by rw [c11]; decide) (by rw [c11]; rfl) rfl ?_
    refine r_aload_n dX9_scoreOf_40 rfl ?_
    refine r_getP (a := 67) dX9_scoreOf_41 kf_RX9_80 (zlt hn rfl) sh_0 rfl (k8.1 _ _ _ (zlt hn rfl) p_0_10) ?_
    refine r_iload_n dX9_scoreOf_44 rfl ?_
    refine n_callV (N := M_X6_standingOf) (As := [iV x1]) (st := []) dX9_scoreOf_45 mk_X6_standingOf km_RX9_291 kd_X6_standingOf rfl (zlt hn rfl) sh_67 (q := (RX6, TX6, 5)) rfl rfl (zFits_rm d n n n (Nat.le_refl n)) (Nat.le_of_ble_eq_true rfl) rfl k8 h12 ?_
    rintro _ σ14 k15 ⟨v13, rfl, h16, h17⟩
    change Zm _ _ _ _ _ _ 48 _ [iV v13] _
    refine r_aload_n dX9_scoreOf_48 rfl ?_
    refine r_getP (a := 67) dX9_scoreOf_49 kf_RX9_80 (zlt hn rfl) sh_0 rfl (k15.1 _ _ _ (zlt hn rfl) p_0_10) ?_
    refine r_iload_n dX9_scoreOf_52 rfl ?_
    refine n_callV (N := M_X6_landOf) (As := [iV x1]) (st := [iV v13]) dX9_scoreOf_53 mk_X6_landOf km_RX9_294 kd_X6_landOf rfl (zlt hn rfl) sh_67 (q := (RX6, TX6, 5)) rfl rfl (zFits_rm d n n n (Nat.le_refl n)) (Nat.le_of_ble_eq_true rfl) rfl k15 h17 ?_
    rintro _ σ19 k20 ⟨v18, rfl, h21, h22⟩
    change Zm _ _ _ _ _ _ 56 _ [iV v18, iV v13] _
    refine r_iadd dX9_scoreOf_56 ?_
    obtain ⟨h23, h24⟩ := h22
    exact r_ireturn dX9_scoreOf_57 rfl ⟨k20, _, rfl, h23, h24⟩
  by_cases c25 : x2 = 1
  · have h26 := h10.2.1 c25
    refine r_tabIn (t := 58) dX9_scoreOf_13 hx2 (by rw [c25]; decide) (by rw [c25]; decide) (by rw [c25]; rfl) rfl ?_
    refine r_aload_n dX9_scoreOf_58 rfl ?_
    refine r_getP (a := 67) dX9_scoreOf_59 kf_RX9_80 (zlt hn rfl) sh_0 rfl (k8.1 _ _ _ (zlt hn rfl) p_0_10) ?_
    refine r_iload_n dX9_scoreOf_62 rfl ?_
    refine n_callV (N := M_X6_landOf) (As := [iV x1]) (st := []) dX9_scoreOf_63 mk_X6_landOf km_RX9_294 kd_X6_landOf rfl (zlt hn rfl) sh_67 (q := (RX6, TX6, 5)) rfl rfl (zFits_rm d n n n (Nat.le_refl n)) (Nat.le_of_ble_eq_true rfl) rfl k8 h26 ?_
    rintro _ σ28 k29 ⟨v27, rfl, h30, h31⟩
    change Zm _ _ _ _ _ _ 66 _ [iV v27] _
    refine r_aload_n dX9_scoreOf_66 rfl ?_
    obtain ⟨t32, h33, h34, h35⟩ := h31
    refine r_getP (a := t32) dX9_scoreOf_67 kf_RX9_10 (zlt hn rfl) sh_0 rfl h33 ?_
    refine r_iload_n dX9_scoreOf_70 rfl ?_
    refine n_callV (N := M_X7_takenBy) (As := [iV x1]) (st := [iV v27]) dX9_scoreOf_71 mk_X7_takenBy km_RX9_297 kd_X7_takenBy rfl (zT_lt h34 hn) (zT_s h34) (q := (RX7, TX7, 17)) rfl rfl (zFits_rm d n n n (Nat.le_refl n)) (Nat.le_of_ble_eq_true rfl) rfl k29 h35 ?_
    rintro _ σ37 k38 ⟨v36, rfl, h39, h40⟩
    change Zm _ _ _ _ _ _ 74 _ [iV v36, iV v27] _
    refine r_iadd dX9_scoreOf_74 ?_
    refine r_aload_n dX9_scoreOf_75 rfl ?_
    refine r_getP (a := 67) dX9_scoreOf_76 kf_RX9_80 (zlt hn rfl) sh_0 rfl (k38.1 _ _ _ (zlt hn rfl) p_0_10) ?_
    refine r_iload_n dX9_scoreOf_79 rfl ?_
    refine n_callV (N := M_X6_deadOf) (As := [iV v1]) (st := [iV (v27 + v36)]) dX9_scoreOf_80 mk_X6_deadOf km_RX9_300 kd_X6_deadOf rfl (zlt hn rfl) sh_67 (q := (RX6, TX6, 5)) rfl rfl (zFits_rm d n n n (Nat.le_refl n)) (Nat.le_of_ble_eq_true rfl) rfl k38 h40 ?_
    rintro _ σ42 k43 ⟨v41, rfl, h44, h45⟩
    change Zm _ _ _ _ _ _ 83 _ [iV v41, iV (v27 + v36)] _
    refine r_iadd dX9_scoreOf_83 ?_
    obtain ⟨h46, h47⟩ := h45
    exact r_ireturn dX9_scoreOf_84 rfl ⟨k43, _, rfl, h46, h47⟩
  by_cases c48 : x2 = 2
  · have h49 := h10.2.2.1 c48
    refine r_tabIn (t := 85) dX9_scoreOf_13 hx2 (by rw [c48]; decide) (by rw [c48]; decide) (by rw [c48]; rfl) rfl ?_
    refine r_aload_n dX9_scoreOf_85 rfl ?_
    obtain ⟨t50, h51, h52, h53⟩ := h49
    refine r_getP (a := t50) dX9_scoreOf_86 kf_RX9_10 (zlt hn rfl) sh_0 rfl h51 ?_
    refine r_iload_n dX9_scoreOf_89 rfl ?_
    refine n_callV (N := M_X7_takenBy) (As := [iV x1]) (st := []) dX9_scoreOf_90 mk_X7_takenBy km_RX9_297 kd_X7_takenBy rfl (zT_lt h52 hn) (zT_s h52) (q := (RX7, TX7, 17)) rfl rfl (zFits_rm d n n n (Nat.le_refl n)) (Nat.le_of_ble_eq_true rfl) rfl k8 h53 ?_
    rintro _ σ55 k56 ⟨v54, rfl, h57, h58⟩
    change Zm _ _ _ _ _ _ 93 _ [iV v54] _
    exact r_ireturn dX9_scoreOf_93 rfl ⟨k56, _, rfl, h57, h58⟩
  · have c65 : (x2 < 0 ∨ 2 < x2) := by omega
    have h59 := h10.2.2.2 c65
    refine r_tabOut (t := 94) dX9_scoreOf_13 hx2 c65 rfl ?_
    refine r_aload_n dX9_scoreOf_94 rfl ?_
    refine r_getP (a := 67) dX9_scoreOf_95 kf_RX9_80 (zlt hn rfl) sh_0 rfl (k8.1 _ _ _ (zlt hn rfl) p_0_10) ?_
    refine r_iload_n dX9_scoreOf_98 rfl ?_
    refine n_callV (N := M_X6_deadOf) (As := [iV x1]) (st := []) dX9_scoreOf_99 mk_X6_deadOf km_RX9_300 kd_X6_deadOf rfl (zlt hn rfl) sh_67 (q := (RX6, TX6, 5)) rfl rfl (zFits_rm d n n n (Nat.le_refl n)) (Nat.le_of_ble_eq_true rfl) rfl k8 h59 ?_
    rintro _ σ61 k62 ⟨v60, rfl, h63, h64⟩
    change Zm _ _ _ _ _ _ 102 _ [iV v60] _
    exact r_ireturn dX9_scoreOf_102 rfl ⟨k62, _, rfl, h63, h64⟩
