/-! StoneRoom$Tree.clear -/
theorem dX7_clear_0 : decode M_X7_clear.2.1 0 = .ok (.aload_n 0, 1) := by decide +kernel
theorem dX7_clear_1 : decode M_X7_clear.2.1 1 = .ok (.iload_n 1, 1) := by decide +kernel
theorem dX7_clear_2 : decode M_X7_clear.2.1 2 = .ok (.putfield 52, 3) := by decide +kernel
theorem dX7_clear_5 : decode M_X7_clear.2.1 5 = .ok (.aload_n 0, 1) := by decide +kernel
theorem dX7_clear_6 : decode M_X7_clear.2.1 6 = .ok (.iload_n 2, 1) := by decide +kernel
theorem dX7_clear_7 : decode M_X7_clear.2.1 7 = .ok (.putfield 56, 3) := by decide +kernel
theorem dX7_clear_10 : decode M_X7_clear.2.1 10 = .ok (.aload_n 0, 1) := by decide +kernel
theorem dX7_clear_11 : decode M_X7_clear.2.1 11 = .ok (.iconst 0, 1) := by decide +kernel
theorem dX7_clear_12 : decode M_X7_clear.2.1 12 = .ok (.putfield 59, 3) := by decide +kernel
theorem dX7_clear_15 : decode M_X7_clear.2.1 15 = .ok (.aload_n 0, 1) := by decide +kernel
theorem dX7_clear_16 : decode M_X7_clear.2.1 16 = .ok (.iconst 0, 1) := by decide +kernel
theorem dX7_clear_17 : decode M_X7_clear.2.1 17 = .ok (.putfield 62, 3) := by decide +kernel
theorem dX7_clear_20 : decode M_X7_clear.2.1 20 = .ok (.return_, 1) := by decide +kernel
theorem w_X7_clear {X : ZX} {d n : Nat} {P : ZSto → Prop} {o0 : Nat} {x1 : Int} {x2 : Int} {σ : ZSto} (hn : 73 ≤ n) (hc0 : zIsT o0) (hx1 : R32 x1) (hx2 : R32 x2)
    (h : P (sI (sI (sI (sI σ o0 13 x1) o0 14 x2) o0 15 0) o0 16 0)) :
    ZkV X M_X7_clear (d + 1) n [.ref (zB X + o0), iV x1, iV x2] σ P := by
  refine zk_of (ls := [some (.ref (zB X + o0)), some (iV x1), some (iV x2)]) pl_RX7 (Nat.le_of_ble_eq_true rfl) rfl (fun k0 => ?_)
  unfold Zn
  refine r_aload_n dX7_clear_0 rfl ?_
  refine r_iload_n dX7_clear_1 rfl ?_
  refine r_putI dX7_clear_2 kf_RX7_52 (zT_lt hc0 hn) (zT_s hc0) rfl (Or.inl rfl) ?_
  have k1 := zok_o (i := 13) (x := x1) k0 (zT_s hc0) hx1
  refine r_aload_n dX7_clear_5 rfl ?_
  refine r_iload_n dX7_clear_6 rfl ?_
  refine r_putI dX7_clear_7 kf_RX7_56 (zT_lt hc0 hn) (zT_s hc0) rfl (Or.inl rfl) ?_
  have k2 := zok_o (i := 14) (x := x2) k1 (zT_s hc0) hx2
  refine r_aload_n dX7_clear_10 rfl ?_
  refine r_iconst dX7_clear_11 ?_
  refine r_putI dX7_clear_12 kf_RX7_59 (zT_lt hc0 hn) (zT_s hc0) rfl (Or.inl rfl) ?_
  have k3 := zok_o (i := 15) (x := 0) k2 (zT_s hc0) (r32c rfl)
  refine r_aload_n dX7_clear_15 rfl ?_
  refine r_iconst dX7_clear_16 ?_
  refine r_putI dX7_clear_17 kf_RX7_62 (zT_lt hc0 hn) (zT_s hc0) rfl (Or.inl rfl) ?_
  have k4 := zok_o (i := 16) (x := 0) k3 (zT_s hc0) (r32c rfl)
  exact r_return dX7_clear_20 rfl ⟨k4, rfl, h⟩
/-! StoneRoom$Tree.has -/
theorem dX7_has_0 : decode M_X7_has.2.1 0 = .ok (.iload_n 1, 1) := by decide +kernel
theorem dX7_has_1 : decode M_X7_has.2.1 1 = .ok (.ifCond .lt 22, 3) := by decide +kernel
theorem dX7_has_4 : decode M_X7_has.2.1 4 = .ok (.iload_n 1, 1) := by decide +kernel
theorem dX7_has_5 : decode M_X7_has.2.1 5 = .ok (.aload_n 0, 1) := by decide +kernel
theorem dX7_has_6 : decode M_X7_has.2.1 6 = .ok (.getfield 59, 3) := by decide +kernel
theorem dX7_has_9 : decode M_X7_has.2.1 9 = .ok (.if_icmp .ge 14, 3) := by decide +kernel
theorem dX7_has_12 : decode M_X7_has.2.1 12 = .ok (.iload_n 1, 1) := by decide +kernel
theorem dX7_has_13 : decode M_X7_has.2.1 13 = .ok (.sipush 250, 3) := by decide +kernel
theorem dX7_has_16 : decode M_X7_has.2.1 16 = .ok (.if_icmp .ge 7, 3) := by decide +kernel
theorem dX7_has_19 : decode M_X7_has.2.1 19 = .ok (.iconst 1, 1) := by decide +kernel
theorem dX7_has_20 : decode M_X7_has.2.1 20 = .ok (.goto 4, 3) := by decide +kernel
theorem dX7_has_23 : decode M_X7_has.2.1 23 = .ok (.iconst 0, 1) := by decide +kernel
theorem dX7_has_24 : decode M_X7_has.2.1 24 = .ok (.ireturn, 1) := by decide +kernel
theorem w_X7_has {X : ZX} {d n : Nat} {P : Int → ZSto → Prop} {o0 : Nat} {x1 : Int} {σ : ZSto} (hn : 73 ≤ n) (hc0 : zIsT o0) (hx1 : R32 x1)
    (h : (x1 < 0 → P 0 σ) ∧ (¬ (x1 < 0) → (gI σ o0 15 ≤ x1 → P 0 σ) ∧ (¬ (gI σ o0 15 ≤ x1) → (250 ≤ x1 → P 0 σ) ∧ (¬ (250 ≤ x1) → P 1 σ)))) :
    ZkZ X M_X7_has (d + 1) n [.ref (zB X + o0), iV x1] σ P := by
  refine zk_of (ls := [some (.ref (zB X + o0)), some (iV x1)]) pl_RX7 (Nat.le_of_ble_eq_true rfl) rfl (fun k0 => ?_)
  unfold Zn
  refine r_iload_n dX7_has_0 rfl ?_
  refine r_if_lt (t := 23) dX7_has_1 rfl hx1  (fun c1 => ?_) (fun c2 => ?_)
  · have h3 := h.1 c1
    refine r_iconst dX7_has_23 ?_
    exact r_zreturn dX7_has_24 rfl (Or.inl rfl) ⟨k0, _, rfl, (Or.inl rfl), h3⟩
  · have h4 := h.2 c2
    refine r_iload_n dX7_has_4 rfl ?_
    refine r_aload_n dX7_has_5 rfl ?_
    refine r_getI dX7_has_6 kf_RX7_59 (zT_lt hc0 hn) (zT_s hc0) (Or.inl rfl) rfl ?_
    refine r_icmp_ge (t := 23) dX7_has_9 rfl hx1 (k0.2.1 _ _) (fun c5 => ?_) (fun c6 => ?_)
    · have h7 := h4.1 c5
      refine r_iconst dX7_has_23 ?_
      exact r_zreturn dX7_has_24 rfl (Or.inl rfl) ⟨k0, _, rfl, (Or.inl rfl), h7⟩
    · have h8 := h4.2 c6
      refine r_iload_n dX7_has_12 rfl ?_
      refine r_sipush dX7_has_13 rfl ?_
      refine r_icmp_ge (t := 23) dX7_has_16 rfl hx1 (r32c rfl) (fun c9 => ?_) (fun c10 => ?_)
      · have h11 := h8.1 c9
        refine r_iconst dX7_has_23 ?_
        exact r_zreturn dX7_has_24 rfl (Or.inl rfl) ⟨k0, _, rfl, (Or.inl rfl), h11⟩
      · have h12 := h8.2 c10
        refine r_iconst dX7_has_19 ?_
        refine r_goto (t := 24) dX7_has_20 rfl ?_
        exact r_zreturn dX7_has_24 rfl (Or.inr rfl) ⟨k0, _, rfl, (Or.inr rfl), h12⟩
/-! StoneRoom$Tree.turnAt -/
theorem dX7_turnAt_0 : decode M_X7_turnAt.2.1 0 = .ok (.aload_n 0, 1) := by decide +kernel
theorem dX7_turnAt_1 : decode M_X7_turnAt.2.1 1 = .ok (.iload_n 1, 1) := by decide +kernel
theorem dX7_turnAt_2 : decode M_X7_turnAt.2.1 2 = .ok (.invokevirtual 65, 3) := by decide +kernel
theorem dX7_turnAt_5 : decode M_X7_turnAt.2.1 5 = .ok (.ifCond .eq 12, 3) := by decide +kernel
theorem dX7_turnAt_8 : decode M_X7_turnAt.2.1 8 = .ok (.aload_n 0, 1) := by decide +kernel
theorem dX7_turnAt_9 : decode M_X7_turnAt.2.1 9 = .ok (.getfield 39, 3) := by decide +kernel
theorem dX7_turnAt_12 : decode M_X7_turnAt.2.1 12 = .ok (.iload_n 1, 1) := by decide +kernel
theorem dX7_turnAt_13 : decode M_X7_turnAt.2.1 13 = .ok (.iaload, 1) := by decide +kernel
theorem dX7_turnAt_14 : decode M_X7_turnAt.2.1 14 = .ok (.goto 4, 3) := by decide +kernel
theorem dX7_turnAt_17 : decode M_X7_turnAt.2.1 17 = .ok (.iconst 1, 1) := by decide +kernel
theorem dX7_turnAt_18 : decode M_X7_turnAt.2.1 18 = .ok (.ireturn, 1) := by decide +kernel
theorem w_X7_turnAt {X : ZX} {d n : Nat} {P : Int → ZSto → Prop} {o0 : Nat} {x1 : Int} {σ : ZSto} (hn : 73 ≤ n) (hc0 : zIsT o0) (hx1 : R32 x1)
    (h : ZkZ X M_X7_has d n [.ref (zB X + o0), iV x1] σ (fun v1 σ2 => (v1 = 0 → P 1 σ2) ∧ (¬ (v1 = 0) → (0 ≤ x1 ∧ x1 < 250) ∧ P (gI σ2 (o0 + 10) x1.toNat) σ2))) :
    ZkI X M_X7_turnAt (d + 1) n [.ref (zB X + o0), iV x1] σ P := by
  refine zk_of (ls := [some (.ref (zB X + o0)), some (iV x1)]) pl_RX7 (Nat.le_of_ble_eq_true rfl) rfl (fun k0 => ?_)
  unfold Zn
  refine r_aload_n dX7_turnAt_0 rfl ?_
  refine r_iload_n dX7_turnAt_1 rfl ?_
  refine n_callV (N := M_X7_has) (As := [iV x1]) (st := []) dX7_turnAt_2 mk_X7_has km_RX7_65 kd_X7_has rfl (zT_lt hc0 hn) (zT_s hc0) (q := (RX7, TX7, 17)) rfl rfl (zFits_rm d n n n (Nat.le_refl n)) (Nat.le_of_ble_eq_true rfl) rfl k0 h ?_
  rintro _ σ2 k3 ⟨v1, rfl, h4, h5⟩
  change Zm _ _ _ _ _ _ 5 _ [iV v1] _
  refine r_if_eq (t := 17) dX7_turnAt_5 rfl (r32_z h4)  (fun c6 => ?_) (fun c7 => ?_)
  · have h8 := h5.1 c6
    refine r_iconst dX7_turnAt_17 ?_
    exact r_ireturn dX7_turnAt_18 rfl ⟨k3, _, rfl, (r32c rfl), h8⟩
  · have h9 := h5.2 c7
    refine r_aload_n dX7_turnAt_8 rfl ?_
    refine r_getP (a := (o0 + 10)) dX7_turnAt_9 kf_RX7_39 (zT_lt hc0 hn) (zT_s hc0) rfl (k3.1 _ _ _ (zT_lt hc0 hn) (zT_p9 hc0)) ?_
    refine r_iload_n dX7_turnAt_12 rfl ?_
    obtain ⟨h10, h11⟩ := h9
    refine r_ialoadE dX7_turnAt_13 (zT_l9 hc0 hn) (zT_s9 hc0) h10.1 h10.2 rfl ?_
    refine r_goto (t := 18) dX7_turnAt_14 rfl ?_
    exact r_ireturn dX7_turnAt_18 rfl ⟨k3, _, rfl, (k3.2.1 _ _), h11⟩
/-! StoneRoom$Tree.kindOf -/
theorem dX7_kindOf_0 : decode M_X7_kindOf.2.1 0 = .ok (.aload_n 0, 1) := by decide +kernel
theorem dX7_kindOf_1 : decode M_X7_kindOf.2.1 1 = .ok (.iload_n 1, 1) := by decide +kernel
theorem dX7_kindOf_2 : decode M_X7_kindOf.2.1 2 = .ok (.invokevirtual 65, 3) := by decide +kernel
theorem dX7_kindOf_5 : decode M_X7_kindOf.2.1 5 = .ok (.ifCond .eq 12, 3) := by decide +kernel
theorem dX7_kindOf_8 : decode M_X7_kindOf.2.1 8 = .ok (.aload_n 0, 1) := by decide +kernel
theorem dX7_kindOf_9 : decode M_X7_kindOf.2.1 9 = .ok (.getfield 30, 3) := by decide +kernel
theorem dX7_kindOf_12 : decode M_X7_kindOf.2.1 12 = .ok (.iload_n 1, 1) := by decide +kernel
theorem dX7_kindOf_13 : decode M_X7_kindOf.2.1 13 = .ok (.iaload, 1) := by decide +kernel
theorem dX7_kindOf_14 : decode M_X7_kindOf.2.1 14 = .ok (.goto 4, 3) := by decide +kernel
theorem dX7_kindOf_17 : decode M_X7_kindOf.2.1 17 = .ok (.iconst (-1), 1) := by decide +kernel
theorem dX7_kindOf_18 : decode M_X7_kindOf.2.1 18 = .ok (.ireturn, 1) := by decide +kernel
theorem w_X7_kindOf {X : ZX} {d n : Nat} {P : Int → ZSto → Prop} {o0 : Nat} {x1 : Int} {σ : ZSto} (hn : 73 ≤ n) (hc0 : zIsT o0) (hx1 : R32 x1)
    (h : ZkZ X M_X7_has d n [.ref (zB X + o0), iV x1] σ (fun v1 σ2 => (v1 = 0 → P ((-1)) σ2) ∧ (¬ (v1 = 0) → (0 ≤ x1 ∧ x1 < 250) ∧ P (gI σ2 (o0 + 7) x1.toNat) σ2))) :
    ZkI X M_X7_kindOf (d + 1) n [.ref (zB X + o0), iV x1] σ P := by
  refine zk_of (ls := [some (.ref (zB X + o0)), some (iV x1)]) pl_RX7 (Nat.le_of_ble_eq_true rfl) rfl (fun k0 => ?_)
  unfold Zn
  refine r_aload_n dX7_kindOf_0 rfl ?_
  refine r_iload_n dX7_kindOf_1 rfl ?_
  refine n_callV (N := M_X7_has) (As := [iV x1]) (st := []) dX7_kindOf_2 mk_X7_has km_RX7_65 kd_X7_has rfl (zT_lt hc0 hn) (zT_s hc0) (q := (RX7, TX7, 17)) rfl rfl (zFits_rm d n n n (Nat.le_refl n)) (Nat.le_of_ble_eq_true rfl) rfl k0 h ?_
  rintro _ σ2 k3 ⟨v1, rfl, h4, h5⟩
  change Zm _ _ _ _ _ _ 5 _ [iV v1] _
  refine r_if_eq (t := 17) dX7_kindOf_5 rfl (r32_z h4)  (fun c6 => ?_) (fun c7 => ?_)
  · have h8 := h5.1 c6
    refine r_iconst dX7_kindOf_17 ?_
    exact r_ireturn dX7_kindOf_18 rfl ⟨k3, _, rfl, (r32c rfl), h8⟩
  · have h9 := h5.2 c7
    refine r_aload_n dX7_kindOf_8 rfl ?_
    refine r_getP (a := (o0 + 7)) dX7_kindOf_9 kf_RX7_30 (zT_lt hc0 hn) (zT_s hc0) rfl (k3.1 _ _ _ (zT_lt hc0 hn) (zT_p6 hc0)) ?_
    refine r_iload_n dX7_kindOf_12 rfl ?_
    obtain ⟨h10, h11⟩ := h9
    refine r_ialoadE dX7_kindOf_13 (zT_l6 hc0 hn) (zT_s6 hc0) h10.1 h10.2 rfl ?_
    refine r_goto (t := 18) dX7_kindOf_14 rfl ?_
    exact r_ireturn dX7_kindOf_18 rfl ⟨k3, _, rfl, (k3.2.1 _ _), h11⟩
/-! StoneRoom$Tree.parentOf -/
theorem dX7_parentOf_0 : decode M_X7_parentOf.2.1 0 = .ok (.aload_n 0, 1) := by decide +kernel
theorem dX7_parentOf_1 : decode M_X7_parentOf.2.1 1 = .ok (.iload_n 1, 1) := by decide +kernel
theorem dX7_parentOf_2 : decode M_X7_parentOf.2.1 2 = .ok (.invokevirtual 65, 3) := by decide +kernel
theorem dX7_parentOf_5 : decode M_X7_parentOf.2.1 5 = .ok (.ifCond .eq 12, 3) := by decide +kernel
theorem dX7_parentOf_8 : decode M_X7_parentOf.2.1 8 = .ok (.aload_n 0, 1) := by decide +kernel
theorem dX7_parentOf_9 : decode M_X7_parentOf.2.1 9 = .ok (.getfield 9, 3) := by decide +kernel
theorem dX7_parentOf_12 : decode M_X7_parentOf.2.1 12 = .ok (.iload_n 1, 1) := by decide +kernel
theorem dX7_parentOf_13 : decode M_X7_parentOf.2.1 13 = .ok (.iaload, 1) := by decide +kernel
theorem dX7_parentOf_14 : decode M_X7_parentOf.2.1 14 = .ok (.goto 4, 3) := by decide +kernel
theorem dX7_parentOf_17 : decode M_X7_parentOf.2.1 17 = .ok (.iconst (-1), 1) := by decide +kernel
theorem dX7_parentOf_18 : decode M_X7_parentOf.2.1 18 = .ok (.ireturn, 1) := by decide +kernel
theorem w_X7_parentOf {X : ZX} {d n : Nat} {P : Int → ZSto → Prop} {o0 : Nat} {x1 : Int} {σ : ZSto} (hn : 73 ≤ n) (hc0 : zIsT o0) (hx1 : R32 x1)
    (h : ZkZ X M_X7_has d n [.ref (zB X + o0), iV x1] σ (fun v1 σ2 => (v1 = 0 → P ((-1)) σ2) ∧ (¬ (v1 = 0) → (0 ≤ x1 ∧ x1 < 250) ∧ P (gI σ2 (o0 + 1) x1.toNat) σ2))) :
    ZkI X M_X7_parentOf (d + 1) n [.ref (zB X + o0), iV x1] σ P := by
  refine zk_of (ls := [some (.ref (zB X + o0)), some (iV x1)]) pl_RX7 (Nat.le_of_ble_eq_true rfl) rfl (fun k0 => ?_)
  unfold Zn
  refine r_aload_n dX7_parentOf_0 rfl ?_
  refine r_iload_n dX7_parentOf_1 rfl ?_
  refine n_callV (N := M_X7_has) (As := [iV x1]) (st := []) dX7_parentOf_2 mk_X7_has km_RX7_65 kd_X7_has rfl (zT_lt hc0 hn) (zT_s hc0) (q := (RX7, TX7, 17)) rfl rfl (zFits_rm d n n n (Nat.le_refl n)) (Nat.le_of_ble_eq_true rfl) rfl k0 h ?_
  rintro _ σ2 k3 ⟨v1, rfl, h4, h5⟩
  change Zm _ _ _ _ _ _ 5 _ [iV v1] _
  refine r_if_eq (t := 17) dX7_parentOf_5 rfl (r32_z h4)  (fun c6 => ?_) (fun c7 => ?_)
  · have h8 := h5.1 c6
    refine r_iconst dX7_parentOf_17 ?_
    exact r_ireturn dX7_parentOf_18 rfl ⟨k3, _, rfl, (r32c rfl), h8⟩
  · have h9 := h5.2 c7
    refine r_aload_n dX7_parentOf_8 rfl ?_
    refine r_getP (a := (o0 + 1)) dX7_parentOf_9 kf_RX7_9 (zT_lt hc0 hn) (zT_s hc0) rfl (k3.1 _ _ _ (zT_lt hc0 hn) (zT_p0 hc0)) ?_
    refine r_iload_n dX7_parentOf_12 rfl ?_
    obtain ⟨h10, h11⟩ := h9
    refine r_ialoadE dX7_parentOf_13 (zT_l0 hc0 hn) (zT_s0 hc0) h10.1 h10.2 rfl ?_
    refine r_goto (t := 18) dX7_parentOf_14 rfl ?_
    exact r_ireturn dX7_parentOf_18 rfl ⟨k3, _, rfl, (k3.2.1 _ _), h11⟩
/-! StoneRoom$Tree.addSets -/
theorem dX7_addSets_0 : decode M_X7_addSets.2.1 0 = .ok (.aload_n 0, 1) := by decide +kernel
theorem dX7_addSets_1 : decode M_X7_addSets.2.1 1 = .ok (.iload_n 1, 1) := by decide +kernel
theorem dX7_addSets_2 : decode M_X7_addSets.2.1 2 = .ok (.aload_n 3, 1) := by decide +kernel
theorem dX7_addSets_3 : decode M_X7_addSets.2.1 3 = .ok (.invokevirtual 69, 3) := by decide +kernel
theorem dX7_addSets_6 : decode M_X7_addSets.2.1 6 = .ok (.istore 4, 2) := by decide +kernel
theorem dX7_addSets_8 : decode M_X7_addSets.2.1 8 = .ok (.iload 4, 2) := by decide +kernel
theorem dX7_addSets_10 : decode M_X7_addSets.2.1 10 = .ok (.iconst (-1), 1) := by decide +kernel
theorem dX7_addSets_11 : decode M_X7_addSets.2.1 11 = .ok (.if_icmp .eq 35, 3) := by decide +kernel
theorem dX7_addSets_14 : decode M_X7_addSets.2.1 14 = .ok (.aload_n 0, 1) := by decide +kernel
theorem dX7_addSets_15 : decode M_X7_addSets.2.1 15 = .ok (.getfield 30, 3) := by decide +kernel
theorem dX7_addSets_18 : decode M_X7_addSets.2.1 18 = .ok (.iload 4, 2) := by decide +kernel
theorem dX7_addSets_20 : decode M_X7_addSets.2.1 20 = .ok (.iconst 0, 1) := by decide +kernel
theorem dX7_addSets_21 : decode M_X7_addSets.2.1 21 = .ok (.iastore, 1) := by decide +kernel
theorem dX7_addSets_22 : decode M_X7_addSets.2.1 22 = .ok (.aload_n 0, 1) := by decide +kernel
theorem dX7_addSets_23 : decode M_X7_addSets.2.1 23 = .ok (.getfield 33, 3) := by decide +kernel
theorem dX7_addSets_26 : decode M_X7_addSets.2.1 26 = .ok (.iload 4, 2) := by decide +kernel
theorem dX7_addSets_28 : decode M_X7_addSets.2.1 28 = .ok (.iconst 0, 1) := by decide +kernel
theorem dX7_addSets_29 : decode M_X7_addSets.2.1 29 = .ok (.iastore, 1) := by decide +kernel
theorem dX7_addSets_30 : decode M_X7_addSets.2.1 30 = .ok (.aload_n 0, 1) := by decide +kernel
theorem dX7_addSets_31 : decode M_X7_addSets.2.1 31 = .ok (.getfield 36, 3) := by decide +kernel
theorem dX7_addSets_34 : decode M_X7_addSets.2.1 34 = .ok (.iload 4, 2) := by decide +kernel
theorem dX7_addSets_36 : decode M_X7_addSets.2.1 36 = .ok (.iconst (-1), 1) := by decide +kernel
theorem dX7_addSets_37 : decode M_X7_addSets.2.1 37 = .ok (.iastore, 1) := by decide +kernel
theorem dX7_addSets_38 : decode M_X7_addSets.2.1 38 = .ok (.aload_n 0, 1) := by decide +kernel
theorem dX7_addSets_39 : decode M_X7_addSets.2.1 39 = .ok (.getfield 39, 3) := by decide +kernel
theorem dX7_addSets_42 : decode M_X7_addSets.2.1 42 = .ok (.iload 4, 2) := by decide +kernel
theorem dX7_addSets_44 : decode M_X7_addSets.2.1 44 = .ok (.iload_n 2, 1) := by decide +kernel
theorem dX7_addSets_45 : decode M_X7_addSets.2.1 45 = .ok (.iastore, 1) := by decide +kernel
theorem dX7_addSets_46 : decode M_X7_addSets.2.1 46 = .ok (.iload 4, 2) := by decide +kernel
theorem dX7_addSets_48 : decode M_X7_addSets.2.1 48 = .ok (.ireturn, 1) := by decide +kernel
theorem w_X7_addSets {X : ZX} {d n : Nat} {P : Int → ZSto → Prop} {o0 : Nat} {x1 : Int} {x2 : Int} {o3 : Nat} {σ : ZSto} (hn : 73 ≤ n) (hc0 : zIsT o0) (hc3 : zIsB o3) (hx1 : R32 x1) (hx2 : R32 x2)
    (h : ZkI X M_X7_addNode d n [.ref (zB X + o0), iV x1, .ref (zB X + o3)] σ (fun v1 σ2 => (v1 = (-1) → P v1 σ2) ∧ (¬ (v1 = (-1)) → (0 ≤ v1 ∧ v1 < 250) ∧ P v1 (sI (sI (sI (sI σ2 (o0 + 7) v1.toNat 0) (o0 + 8) v1.toNat 0) (o0 + 9) v1.toNat ((-1))) (o0 + 10) v1.toNat x2)))) :
    ZkI X M_X7_addSets (d + 1) n [.ref (zB X + o0), iV x1, iV x2, .ref (zB X + o3)] σ P := by
  refine zk_of (ls := [some (.ref (zB X + o0)), some (iV x1), some (iV x2), some (.ref (zB X + o3)), none]) pl_RX7 (Nat.le_of_ble_eq_true rfl) rfl (fun k0 => ?_)
  unfold Zn
  refine r_aload_n dX7_addSets_0 rfl ?_
  refine r_iload_n dX7_addSets_1 rfl ?_
  refine r_aload_n dX7_addSets_2 rfl ?_
  refine n_callV (N := M_X7_addNode) (As := [iV x1, .ref (zB X + o3)]) (st := []) dX7_addSets_3 mk_X7_addNode km_RX7_69 kd_X7_addNode rfl (zT_lt hc0 hn) (zT_s hc0) (q := (RX7, TX7, 17)) rfl rfl (zFits_rm d n n n (Nat.le_refl n)) (Nat.le_of_ble_eq_true rfl) rfl k0 h ?_
  rintro _ σ2 k3 ⟨v1, rfl, h4, h5⟩
  change Zm _ _ _ _ _ _ 6 _ [iV v1] _
  refine r_istore dX7_addSets_6 rfl rfl ?_
  refine r_iload dX7_addSets_8 rfl ?_
  refine r_iconst dX7_addSets_10 ?_
  refine r_icmp_eq (t := 46) dX7_addSets_11 rfl h4 (r32c rfl) (fun c6 => ?_) (fun c7 => ?_)
  · have h8 := h5.1 c6
    refine r_iload dX7_addSets_46 rfl ?_
    exact r_ireturn dX7_addSets_48 rfl ⟨k3, _, rfl, h4, h8⟩
  · have h9 := h5.2 c7
    refine r_aload_n dX7_addSets_14 rfl ?_
    refine r_getP (a := (o0 + 7)) dX7_addSets_15 kf_RX7_30 (zT_lt hc0 hn) (zT_s hc0) rfl (k3.1 _ _ _ (zT_lt hc0 hn) (zT_p6 hc0)) ?_
    refine r_iload dX7_addSets_18 rfl ?_
    refine r_iconst dX7_addSets_20 ?_
    obtain ⟨h10, h11⟩ := h9
    refine r_iastore dX7_addSets_21 (zT_l6 hc0 hn) (zT_s6 hc0) h10.1 h10.2 ?_
    have k12 := zok_i (i := v1.toNat) (x := 0) k3 (zT_s6 hc0) (r32c rfl)
    refine r_aload_n dX7_addSets_22 rfl ?_
    refine r_getP (a := (o0 + 8)) dX7_addSets_23 kf_RX7_33 (zT_lt hc0 hn) (zT_s hc0) rfl (k12.1 _ _ _ (zT_lt hc0 hn) (zT_p7 hc0)) ?_
    refine r_iload dX7_addSets_26 rfl ?_
    refine r_iconst dX7_addSets_28 ?_
    refine r_iastore dX7_addSets_29 (zT_l7 hc0 hn) (zT_s7 hc0) h10.1 h10.2 ?_
    have k13 := zok_i (i := v1.toNat) (x := 0) k12 (zT_s7 hc0) (r32c rfl)
    refine r_aload_n dX7_addSets_30 rfl ?_
    refine r_getP (a := (o0 + 9)) dX7_addSets_31 kf_RX7_36 (zT_lt hc0 hn) (zT_s hc0) rfl (k13.1 _ _ _ (zT_lt hc0 hn) (zT_p8 hc0)) ?_
    refine r_iload dX7_addSets_34 rfl ?_
    refine r_iconst dX7_addSets_36 ?_
    refine r_iastore dX7_addSets_37 (zT_l8 hc0 hn) (zT_s8 hc0) h10.1 h10.2 ?_
    have k14 := zok_i (i := v1.toNat) (x := (-1)) k13 (zT_s8 hc0) (r32c rfl)
    refine r_aload_n dX7_addSets_38 rfl ?_
    refine r_getP (a := (o0 + 10)) dX7_addSets_39 kf_RX7_39 (zT_lt hc0 hn) (zT_s hc0) rfl (k14.1 _ _ _ (zT_lt hc0 hn) (zT_p9 hc0)) ?_
    refine r_iload dX7_addSets_42 rfl ?_
    refine r_iload_n dX7_addSets_44 rfl ?_
    refine r_iastore dX7_addSets_45 (zT_l9 hc0 hn) (zT_s9 hc0) h10.1 h10.2 ?_
    have k15 := zok_i (i := v1.toNat) (x := x2) k14 (zT_s9 hc0) hx2
    refine r_iload dX7_addSets_46 rfl ?_
    exact r_ireturn dX7_addSets_48 rfl ⟨k15, _, rfl, h4, h11⟩
/-! StoneRoom$Tree.copySettings -/
theorem dX7_copySettings_0 : decode M_X7_copySettings.2.1 0 = .ok (.aload_n 0, 1) := by decide +kernel
theorem dX7_copySettings_1 : decode M_X7_copySettings.2.1 1 = .ok (.iload_n 1, 1) := by decide +kernel
theorem dX7_copySettings_2 : decode M_X7_copySettings.2.1 2 = .ok (.invokevirtual 65, 3) := by decide +kernel
theorem dX7_copySettings_5 : decode M_X7_copySettings.2.1 5 = .ok (.ifCond .eq 22, 3) := by decide +kernel
theorem dX7_copySettings_8 : decode M_X7_copySettings.2.1 8 = .ok (.aload_n 2, 1) := by decide +kernel
theorem dX7_copySettings_9 : decode M_X7_copySettings.2.1 9 = .ok (.arraylength, 1) := by decide +kernel
theorem dX7_copySettings_10 : decode M_X7_copySettings.2.1 10 = .ok (.iconst 3, 1) := by decide +kernel
theorem dX7_copySettings_11 : decode M_X7_copySettings.2.1 11 = .ok (.if_icmp .lt 16, 3) := by decide +kernel
theorem dX7_copySettings_14 : decode M_X7_copySettings.2.1 14 = .ok (.aload_n 2, 1) := by decide +kernel
theorem dX7_copySettings_15 : decode M_X7_copySettings.2.1 15 = .ok (.iconst 0, 1) := by decide +kernel
theorem dX7_copySettings_16 : decode M_X7_copySettings.2.1 16 = .ok (.aload_n 0, 1) := by decide +kernel
theorem dX7_copySettings_17 : decode M_X7_copySettings.2.1 17 = .ok (.getfield 49, 3) := by decide +kernel
theorem dX7_copySettings_20 : decode M_X7_copySettings.2.1 20 = .ok (.iload_n 1, 1) := by decide +kernel
theorem dX7_copySettings_21 : decode M_X7_copySettings.2.1 21 = .ok (.iconst 3, 1) := by decide +kernel
theorem dX7_copySettings_22 : decode M_X7_copySettings.2.1 22 = .ok (.imul, 1) := by decide +kernel
theorem dX7_copySettings_23 : decode M_X7_copySettings.2.1 23 = .ok (.iconst 3, 1) := by decide +kernel
theorem dX7_copySettings_24 : decode M_X7_copySettings.2.1 24 = .ok (.invokestatic 73, 3) := by decide +kernel
theorem dX7_copySettings_27 : decode M_X7_copySettings.2.1 27 = .ok (.return_, 1) := by decide +kernel
theorem w_X7_copySettings {X : ZX} {d n : Nat} {P : ZSto → Prop} {o0 : Nat} {x1 : Int} {a2 : Nat} {z2 : Nat} {σ : ZSto} (hn : 73 ≤ n) (hc0 : zIsT o0) (ha2 : a2 < n) (hs2 : SH a2 = some (.inl (.long, z2))) (hx1 : R32 x1)
    (h : ZkZ X M_X7_has d n [.ref (zB X + o0), iV x1] σ (fun v1 σ2 => (v1 = 0 → P σ2) ∧ (¬ (v1 = 0) → ((z2 : Int) < 3 → P σ2) ∧ (¬ ((z2 : Int) < 3) → ((0 : Int) ≤ 0 ∧ (0 : Int) ≤ x1 * 3 ∧ (0 : Int) ≤ 3 ∧ (0 : Int) + 3 ≤ z2 ∧ (x1 * 3 : Int) + 3 ≤ 750) ∧ P (cpL σ2 a2 (o0 + 13) 0 (x1 * 3) 3))))) :
    ZkV X M_X7_copySettings (d + 1) n [.ref (zB X + o0), iV x1, .ref (zB X + a2)] σ P := by
  refine zk_of (ls := [some (.ref (zB X + o0)), some (iV x1), some (.ref (zB X + a2))]) pl_RX7 (Nat.le_of_ble_eq_true rfl) rfl (fun k0 => ?_)
  unfold Zn
  refine r_aload_n dX7_copySettings_0 rfl ?_
  refine r_iload_n dX7_copySettings_1 rfl ?_
  refine n_callV (N := M_X7_has) (As := [iV x1]) (st := []) dX7_copySettings_2 mk_X7_has km_RX7_65 kd_X7_has rfl (zT_lt hc0 hn) (zT_s hc0) (q := (RX7, TX7, 17)) rfl rfl (zFits_rm d n n n (Nat.le_refl n)) (Nat.le_of_ble_eq_true rfl) rfl k0 h ?_
  rintro _ σ2 k3 ⟨v1, rfl, h4, h5⟩
  change Zm _ _ _ _ _ _ 5 _ [iV v1] _
  refine r_if_eq (t := 27) dX7_copySettings_5 rfl (r32_z h4)  (fun c6 => ?_) (fun c7 => ?_)
  · have h8 := h5.1 c6
    exact r_return dX7_copySettings_27 rfl ⟨k3, rfl, h8⟩
  · have h9 := h5.2 c7
    refine r_aload_n dX7_copySettings_8 rfl ?_
    refine r_alen dX7_copySettings_9 ha2 hs2 (Or.inr (Or.inr (Or.inr rfl))) ?_
    refine r_iconst dX7_copySettings_10 ?_
    refine r_icmp_lt (t := 27) dX7_copySettings_11 rfl (r32_len hs2) (r32c rfl) (fun c10 => ?_) (fun c11 => ?_)
    · have h12 := h9.1 c10
      exact r_return dX7_copySettings_27 rfl ⟨k3, rfl, h12⟩
    · have h13 := h9.2 c11
      refine r_aload_n dX7_copySettings_14 rfl ?_
      refine r_iconst dX7_copySettings_15 ?_
      refine r_aload_n dX7_copySettings_16 rfl ?_
      refine r_getP (a := (o0 + 13)) dX7_copySettings_17 kf_RX7_49 (zT_lt hc0 hn) (zT_s hc0) rfl (k3.1 _ _ _ (zT_lt hc0 hn) (zT_p12 hc0)) ?_
      refine r_iload_n dX7_copySettings_20 rfl ?_
      refine r_iconst dX7_copySettings_21 ?_
      refine r_imul dX7_copySettings_22 ?_
      refine r_iconst dX7_copySettings_23 ?_
      obtain ⟨h14, h15⟩ := h13
      refine r_copyL dX7_copySettings_24 kw_RX7_arraycopy ha2 hs2 (zT_l12 hc0 hn) (zT_s12 hc0) h14 (zFits_rm d n n n (Nat.le_refl n)) (Nat.le_of_ble_eq_true rfl) k3 ?_
      have k16 := zok_cpL (sp := 0) (dp := (x1 * 3)) (m := 3) k3 hs2 (zT_s12 hc0)
      exact r_return dX7_copySettings_27 rfl ⟨k16, rfl, h15⟩
/-! StoneRoom$Tree.addMove -/
theorem dX7_addMove_0 : decode M_X7_addMove.2.1 0 = .ok (.aload_n 0, 1) := by decide +kernel
theorem dX7_addMove_1 : decode M_X7_addMove.2.1 1 = .ok (.iload_n 1, 1) := by decide +kernel
theorem dX7_addMove_2 : decode M_X7_addMove.2.1 2 = .ok (.aload 4, 2) := by decide +kernel
theorem dX7_addMove_4 : decode M_X7_addMove.2.1 4 = .ok (.invokevirtual 69, 3) := by decide +kernel
theorem dX7_addMove_7 : decode M_X7_addMove.2.1 7 = .ok (.istore 5, 2) := by decide +kernel
theorem dX7_addMove_9 : decode M_X7_addMove.2.1 9 = .ok (.iload 5, 2) := by decide +kernel
theorem dX7_addMove_11 : decode M_X7_addMove.2.1 11 = .ok (.iconst (-1), 1) := by decide +kernel
theorem dX7_addMove_12 : decode M_X7_addMove.2.1 12 = .ok (.if_icmp .eq 68, 3) := by decide +kernel
theorem dX7_addMove_15 : decode M_X7_addMove.2.1 15 = .ok (.aload_n 0, 1) := by decide +kernel
theorem dX7_addMove_16 : decode M_X7_addMove.2.1 16 = .ok (.getfield 30, 3) := by decide +kernel
theorem dX7_addMove_19 : decode M_X7_addMove.2.1 19 = .ok (.iload 5, 2) := by decide +kernel
theorem dX7_addMove_21 : decode M_X7_addMove.2.1 21 = .ok (.iload_n 3, 1) := by decide +kernel
theorem dX7_addMove_22 : decode M_X7_addMove.2.1 22 = .ok (.iconst (-1), 1) := by decide +kernel
theorem dX7_addMove_23 : decode M_X7_addMove.2.1 23 = .ok (.if_icmp .ne 7, 3) := by decide +kernel
theorem dX7_addMove_26 : decode M_X7_addMove.2.1 26 = .ok (.iconst 2, 1) := by decide +kernel
theorem dX7_addMove_27 : decode M_X7_addMove.2.1 27 = .ok (.goto 4, 3) := by decide +kernel
theorem dX7_addMove_30 : decode M_X7_addMove.2.1 30 = .ok (.iconst 1, 1) := by decide +kernel
theorem dX7_addMove_31 : decode M_X7_addMove.2.1 31 = .ok (.iastore, 1) := by decide +kernel
theorem dX7_addMove_32 : decode M_X7_addMove.2.1 32 = .ok (.aload_n 0, 1) := by decide +kernel
theorem dX7_addMove_33 : decode M_X7_addMove.2.1 33 = .ok (.getfield 33, 3) := by decide +kernel
theorem dX7_addMove_36 : decode M_X7_addMove.2.1 36 = .ok (.iload 5, 2) := by decide +kernel
theorem dX7_addMove_38 : decode M_X7_addMove.2.1 38 = .ok (.iload_n 2, 1) := by decide +kernel
theorem dX7_addMove_39 : decode M_X7_addMove.2.1 39 = .ok (.iastore, 1) := by decide +kernel
theorem dX7_addMove_40 : decode M_X7_addMove.2.1 40 = .ok (.aload_n 0, 1) := by decide +kernel
theorem dX7_addMove_41 : decode M_X7_addMove.2.1 41 = .ok (.getfield 36, 3) := by decide +kernel
theorem dX7_addMove_44 : decode M_X7_addMove.2.1 44 = .ok (.iload 5, 2) := by decide +kernel
theorem dX7_addMove_46 : decode M_X7_addMove.2.1 46 = .ok (.iload_n 3, 1) := by decide +kernel
theorem dX7_addMove_47 : decode M_X7_addMove.2.1 47 = .ok (.iastore, 1) := by decide +kernel
theorem dX7_addMove_48 : decode M_X7_addMove.2.1 48 = .ok (.aload_n 0, 1) := by decide +kernel
theorem dX7_addMove_49 : decode M_X7_addMove.2.1 49 = .ok (.getfield 39, 3) := by decide +kernel
theorem dX7_addMove_52 : decode M_X7_addMove.2.1 52 = .ok (.iload 5, 2) := by decide +kernel
theorem dX7_addMove_54 : decode M_X7_addMove.2.1 54 = .ok (.iload_n 2, 1) := by decide +kernel
theorem dX7_addMove_55 : decode M_X7_addMove.2.1 55 = .ok (.invokestatic 79, 3) := by decide +kernel
theorem dX7_addMove_58 : decode M_X7_addMove.2.1 58 = .ok (.iastore, 1) := by decide +kernel
theorem dX7_addMove_59 : decode M_X7_addMove.2.1 59 = .ok (.aload_n 0, 1) := by decide +kernel
theorem dX7_addMove_60 : decode M_X7_addMove.2.1 60 = .ok (.getfield 42, 3) := by decide +kernel
theorem dX7_addMove_63 : decode M_X7_addMove.2.1 63 = .ok (.iload 5, 2) := by decide +kernel
theorem dX7_addMove_65 : decode M_X7_addMove.2.1 65 = .ok (.iload_n 3, 1) := by decide +kernel
theorem dX7_addMove_66 : decode M_X7_addMove.2.1 66 = .ok (.iconst (-1), 1) := by decide +kernel
theorem dX7_addMove_67 : decode M_X7_addMove.2.1 67 = .ok (.if_icmp .ne 7, 3) := by decide +kernel
theorem dX7_addMove_70 : decode M_X7_addMove.2.1 70 = .ok (.iconst 0, 1) := by decide +kernel
theorem dX7_addMove_71 : decode M_X7_addMove.2.1 71 = .ok (.goto 8, 3) := by decide +kernel
theorem dX7_addMove_74 : decode M_X7_addMove.2.1 74 = .ok (.aload 4, 2) := by decide +kernel
theorem dX7_addMove_76 : decode M_X7_addMove.2.1 76 = .ok (.getfield 83, 3) := by decide +kernel
theorem dX7_addMove_79 : decode M_X7_addMove.2.1 79 = .ok (.iastore, 1) := by decide +kernel
theorem dX7_addMove_80 : decode M_X7_addMove.2.1 80 = .ok (.iload 5, 2) := by decide +kernel
theorem dX7_addMove_82 : decode M_X7_addMove.2.1 82 = .ok (.ireturn, 1) := by decide +kernel
theorem w_X7_addMove {X : ZX} {d n : Nat} {P : Int → ZSto → Prop} {o0 : Nat} {x1 : Int} {x2 : Int} {x3 : Int} {o4 : Nat} {σ : ZSto} (hn : 73 ≤ n) (hc0 : zIsT o0) (hc4 : zIsB o4) (hx1 : R32 x1) (hx2 : R32 x2) (hx3 : R32 x3)
    (h : ZkI X M_X7_addNode d n [.ref (zB X + o0), iV x1, .ref (zB X + o4)] σ (fun v1 σ2 => (v1 = (-1) → P v1 σ2) ∧ (¬ (v1 = (-1)) → (¬ x3 = (-1) → (0 ≤ v1 ∧ v1 < 250) ∧ ZkI X M_X9_otherColour d n [iV x2] (sI (sI (sI σ2 (o0 + 7) v1.toNat 1) (o0 + 8) v1.toNat x2) (o0 + 9) v1.toNat x3) (fun v18 σ19 => (¬ x3 = (-1) → P v1 (sI (sI σ19 (o0 + 10) v1.toNat v18) (o0 + 11) v1.toNat (gI σ19 o4 12))) ∧ (x3 = (-1) → P v1 (sI (sI σ19 (o0 + 10) v1.toNat v18) (o0 + 11) v1.toNat 0)))) ∧ (x3 = (-1) → (0 ≤ v1 ∧ v1 < 250) ∧ ZkI X M_X9_otherColour d n [iV x2] (sI (sI (sI σ2 (o0 + 7) v1.toNat 2) (o0 + 8) v1.toNat x2) (o0 + 9) v1.toNat x3) (fun v36 σ37 => (¬ x3 = (-1) → P v1 (sI (sI σ37 (o0 + 10) v1.toNat v36) (o0 + 11) v1.toNat (gI σ37 o4 12))) ∧ (x3 = (-1) → P v1 (sI (sI σ37 (o0 + 10) v1.toNat v36) (o0 + 11) v1.toNat 0))))))) :
    ZkI X M_X7_addMove (d + 1) n [.ref (zB X + o0), iV x1, iV x2, iV x3, .ref (zB X + o4)] σ P := by
  refine zk_of (ls := [some (.ref (zB X + o0)), some (iV x1), some (iV x2), some (iV x3), some (.ref (zB X + o4)), none]) pl_RX7 (Nat.le_of_ble_eq_true rfl) rfl (fun k0 => ?_)
  unfold Zn
  refine r_aload_n dX7_addMove_0 rfl ?_
  refine r_iload_n dX7_addMove_1 rfl ?_
  refine r_aload dX7_addMove_2 rfl ?_
  refine n_callV (N := M_X7_addNode) (As := [iV x1, .ref (zB X + o4)]) (st := []) dX7_addMove_4 mk_X7_addNode km_RX7_69 kd_X7_addNode rfl (zT_lt hc0 hn) (zT_s hc0) (q := (RX7, TX7, 17)) rfl rfl (zFits_rm d n n n (Nat.le_refl n)) (Nat.le_of_ble_eq_true rfl) rfl k0 h ?_
  rintro _ σ2 k3 ⟨v1, rfl, h4, h5⟩
  change Zm _ _ _ _ _ _ 7 _ [iV v1] _
  refine r_istore dX7_addMove_7 rfl rfl ?_
  refine r_iload dX7_addMove_9 rfl ?_
  refine r_iconst dX7_addMove_11 ?_
  refine r_icmp_eq (t := 80) dX7_addMove_12 rfl h4 (r32c rfl) (fun c6 => ?_) (fun c7 => ?_)
  · have h8 := h5.1 c6
    refine r_iload dX7_addMove_80 rfl ?_
    exact r_ireturn dX7_addMove_82 rfl ⟨k3, _, rfl, h4, h8⟩
  · have h9 := h5.2 c7
    refine r_aload_n dX7_addMove_15 rfl ?_
    refine r_getP (a := (o0 + 7)) dX7_addMove_16 kf_RX7_30 (zT_lt hc0 hn) (zT_s hc0) rfl (k3.1 _ _ _ (zT_lt hc0 hn) (zT_p6 hc0)) ?_
    refine r_iload dX7_addMove_19 rfl ?_
    refine r_iload_n dX7_addMove_21 rfl ?_
    refine r_iconst dX7_addMove_22 ?_
    refine r_icmp_ne (t := 30) dX7_addMove_23 rfl hx3 (r32c rfl) (fun c10 => ?_) (fun c11 => ?_)
    · have h12 := h9.1 c10
      refine r_iconst dX7_addMove_30 ?_
      obtain ⟨h13, h14⟩ := h12
      refine r_iastore dX7_addMove_31 (zT_l6 hc0 hn) (zT_s6 hc0) h13.1 h13.2 ?_
      have k15 := zok_i (i := v1.toNat) (x := 1) k3 (zT_s6 hc0) (r32c rfl)
      refine r_aload_n dX7_addMove_32 rfl ?_
      refine r_getP (a := (o0 + 8)) dX7_addMove_33 kf_RX7_33 (zT_lt hc0 hn) (zT_s hc0) rfl (k15.1 _ _ _ (zT_lt hc0 hn) (zT_p7 hc0)) ?_
      refine r_iload dX7_addMove_36 rfl ?_
      refine r_iload_n dX7_addMove_38 rfl ?_
      refine r_iastore dX7_addMove_39 (zT_l7 hc0 hn) (zT_s7 hc0) h13.1 h13.2 ?_
      have k16 := zok_i (i := v1.toNat) (x := x2) k15 (zT_s7 hc0) hx2
      refine r_aload_n dX7_addMove_40 rfl ?_
      refine r_getP (a := (o0 + 9)) dX7_addMove_41 kf_RX7_36 (zT_lt hc0 hn) (zT_s hc0) rfl (k16.1 _ _ _ (zT_lt hc0 hn) (zT_p8 hc0)) ?_
      refine r_iload dX7_addMove_44 rfl ?_
      refine r_iload_n dX7_addMove_46 rfl ?_
      refine r_iastore dX7_addMove_47 (zT_l8 hc0 hn) (zT_s8 hc0) h13.1 h13.2 ?_
      have k17 := zok_i (i := v1.toNat) (x := x3) k16 (zT_s8 hc0) hx3
      refine r_aload_n dX7_addMove_48 rfl ?_
      refine r_getP (a := (o0 + 10)) dX7_addMove_49 kf_RX7_39 (zT_lt hc0 hn) (zT_s hc0) rfl (k17.1 _ _ _ (zT_lt hc0 hn) (zT_p9 hc0)) ?_
      refine r_iload dX7_addMove_52 rfl ?_
      refine r_iload_n dX7_addMove_54 rfl ?_
      refine n_callS (N := M_X9_otherColour) (As := [iV x2]) (st := [iV v1, .ref (zB X + (o0 + 10))]) dX7_addMove_55 mk_X9_otherColour km_RX7_79 kd_X9_otherColour rfl (zFits_rm d n n n (Nat.le_refl n)) (Nat.le_of_ble_eq_true rfl) rfl k17 h14 ?_
      rintro _ σ19 k20 ⟨v18, rfl, h21, h22⟩
      change Zm _ _ _ _ _ _ 58 _ [iV v18, iV v1, .ref (zB X + (o0 + 10))] _
      refine r_iastore dX7_addMove_58 (zT_l9 hc0 hn) (zT_s9 hc0) h13.1 h13.2 ?_
      have k23 := zok_i (i := v1.toNat) (x := v18) k20 (zT_s9 hc0) h21
      refine r_aload_n dX7_addMove_59 rfl ?_
      refine r_getP (a := (o0 + 11)) dX7_addMove_60 kf_RX7_42 (zT_lt hc0 hn) (zT_s hc0) rfl (k23.1 _ _ _ (zT_lt hc0 hn) (zT_p10 hc0)) ?_
      refine r_iload dX7_addMove_63 rfl ?_
      refine r_iload_n dX7_addMove_65 rfl ?_
      refine r_iconst dX7_addMove_66 ?_
      refine r_icmp_ne (t := 74) dX7_addMove_67 rfl hx3 (r32c rfl) (fun c24 => ?_) (fun c25 => ?_)
      · have h26 := h22.1 c24
        refine r_aload dX7_addMove_74 rfl ?_
        refine r_getI dX7_addMove_76 kf_RX7_83 (zB_lt hc4 hn) (zB_s hc4) (Or.inl rfl) (gI_c (by unfold zIsB at hc4; unfold zIsT at hc0; omega)) ?_
        refine r_iastore dX7_addMove_79 (zT_l10 hc0 hn) (zT_s10 hc0) h13.1 h13.2 ?_
        have k27 := zok_i (i := v1.toNat) (x := gI σ19 o4 12) k23 (zT_s10 hc0) (k20.2.1 _ _)
        refine r_iload dX7_addMove_80 rfl ?_
        exact r_ireturn dX7_addMove_82 rfl ⟨k27, _, rfl, h4, h26⟩
      · have h28 := h22.2 c25
        refine r_iconst dX7_addMove_70 ?_
        refine r_goto (t := 79) dX7_addMove_71 rfl ?_
        refine r_iastore dX7_addMove_79 (zT_l10 hc0 hn) (zT_s10 hc0) h13.1 h13.2 ?_
        have k29 := zok_i (i := v1.toNat) (x := 0) k23 (zT_s10 hc0) (r32c rfl)
        refine r_iload dX7_addMove_80 rfl ?_
        exact r_ireturn dX7_addMove_82 rfl ⟨k29, _, rfl, h4, h28⟩
    · have h30 := h9.2 c11
      refine r_iconst dX7_addMove_26 ?_
      refine r_goto (t := 31) dX7_addMove_27 rfl ?_
      obtain ⟨h31, h32⟩ := h30
      refine r_iastore dX7_addMove_31 (zT_l6 hc0 hn) (zT_s6 hc0) h31.1 h31.2 ?_
      have k33 := zok_i (i := v1.toNat) (x := 2) k3 (zT_s6 hc0) (r32c rfl)
      refine r_aload_n dX7_addMove_32 rfl ?_
      refine r_getP (a := (o0 + 8)) dX7_addMove_33 kf_RX7_33 (zT_lt hc0 hn) (zT_s hc0) rfl (k33.1 _ _ _ (zT_lt hc0 hn) (zT_p7 hc0)) ?_
      refine r_iload dX7_addMove_36 rfl ?_
      refine r_iload_n dX7_addMove_38 rfl ?_
      refine r_iastore dX7_addMove_39 (zT_l7 hc0 hn) (zT_s7 hc0) h31.1 h31.2 ?_
      have k34 := zok_i (i := v1.toNat) (x := x2) k33 (zT_s7 hc0) hx2
      refine r_aload_n dX7_addMove_40 rfl ?_
      refine r_getP (a := (o0 + 9)) dX7_addMove_41 kf_RX7_36 (zT_lt hc0 hn) (zT_s hc0) rfl (k34.1 _ _ _ (zT_lt hc0 hn) (zT_p8 hc0)) ?_
      refine r_iload dX7_addMove_44 rfl ?_
      refine r_iload_n dX7_addMove_46 rfl ?_
      refine r_iastore dX7_addMove_47 (zT_l8 hc0 hn) (zT_s8 hc0) h31.1 h31.2 ?_
      have k35 := zok_i (i := v1.toNat) (x := x3) k34 (zT_s8 hc0) hx3
      refine r_aload_n dX7_addMove_48 rfl ?_
      refine r_getP (a := (o0 + 10)) dX7_addMove_49 kf_RX7_39 (zT_lt hc0 hn) (zT_s hc0) rfl (k35.1 _ _ _ (zT_lt hc0 hn) (zT_p9 hc0)) ?_
      refine r_iload dX7_addMove_52 rfl ?_
      refine r_iload_n dX7_addMove_54 rfl ?_
      refine n_callS (N := M_X9_otherColour) (As := [iV x2]) (st := [iV v1, .ref (zB X + (o0 + 10))]) dX7_addMove_55 mk_X9_otherColour km_RX7_79 kd_X9_otherColour rfl (zFits_rm d n n n (Nat.le_refl n)) (Nat.le_of_ble_eq_true rfl) rfl k35 h32 ?_
      rintro _ σ37 k38 ⟨v36, rfl, h39, h40⟩
      change Zm _ _ _ _ _ _ 58 _ [iV v36, iV v1, .ref (zB X + (o0 + 10))] _
      refine r_iastore dX7_addMove_58 (zT_l9 hc0 hn) (zT_s9 hc0) h31.1 h31.2 ?_
      have k41 := zok_i (i := v1.toNat) (x := v36) k38 (zT_s9 hc0) h39
      refine r_aload_n dX7_addMove_59 rfl ?_
      refine r_getP (a := (o0 + 11)) dX7_addMove_60 kf_RX7_42 (zT_lt hc0 hn) (zT_s hc0) rfl (k41.1 _ _ _ (zT_lt hc0 hn) (zT_p10 hc0)) ?_
      refine r_iload dX7_addMove_63 rfl ?_
      refine r_iload_n dX7_addMove_65 rfl ?_
      refine r_iconst dX7_addMove_66 ?_
      refine r_icmp_ne (t := 74) dX7_addMove_67 rfl hx3 (r32c rfl) (fun c42 => ?_) (fun c43 => ?_)
      · have h44 := h40.1 c42
        refine r_aload dX7_addMove_74 rfl ?_
        refine r_getI dX7_addMove_76 kf_RX7_83 (zB_lt hc4 hn) (zB_s hc4) (Or.inl rfl) (gI_c (by unfold zIsB at hc4; unfold zIsT at hc0; omega)) ?_
        refine r_iastore dX7_addMove_79 (zT_l10 hc0 hn) (zT_s10 hc0) h31.1 h31.2 ?_
        have k45 := zok_i (i := v1.toNat) (x := gI σ37 o4 12) k41 (zT_s10 hc0) (k38.2.1 _ _)
        refine r_iload dX7_addMove_80 rfl ?_
        exact r_ireturn dX7_addMove_82 rfl ⟨k45, _, rfl, h4, h44⟩
      · have h46 := h40.2 c43
        refine r_iconst dX7_addMove_70 ?_
        refine r_goto (t := 79) dX7_addMove_71 rfl ?_
        refine r_iastore dX7_addMove_79 (zT_l10 hc0 hn) (zT_s10 hc0) h31.1 h31.2 ?_
        have k47 := zok_i (i := v1.toNat) (x := 0) k41 (zT_s10 hc0) (r32c rfl)
        refine r_iload dX7_addMove_80 rfl ?_
        exact r_ireturn dX7_addMove_82 rfl ⟨k47, _, rfl, h4, h46⟩
/-! StoneRoom$Tree.addNode -/
theorem dX7_addNode_0 : decode M_X7_addNode.2.1 0 = .ok (.aload_n 0, 1) := by decide +kernel
theorem dX7_addNode_1 : decode M_X7_addNode.2.1 1 = .ok (.getfield 59, 3) := by decide +kernel
theorem dX7_addNode_4 : decode M_X7_addNode.2.1 4 = .ok (.sipush 250, 3) := by decide +kernel
theorem dX7_addNode_7 : decode M_X7_addNode.2.1 7 = .ok (.if_icmp .lt 5, 3) := by decide +kernel
theorem dX7_addNode_10 : decode M_X7_addNode.2.1 10 = .ok (.iconst (-1), 1) := by decide +kernel
theorem dX7_addNode_11 : decode M_X7_addNode.2.1 11 = .ok (.ireturn, 1) := by decide +kernel
theorem dX7_addNode_12 : decode M_X7_addNode.2.1 12 = .ok (.aload_n 0, 1) := by decide +kernel
theorem dX7_addNode_13 : decode M_X7_addNode.2.1 13 = .ok (.getfield 59, 3) := by decide +kernel
theorem dX7_addNode_16 : decode M_X7_addNode.2.1 16 = .ok (.istore_n 3, 1) := by decide +kernel
theorem dX7_addNode_17 : decode M_X7_addNode.2.1 17 = .ok (.aload_n 0, 1) := by decide +kernel
theorem dX7_addNode_18 : decode M_X7_addNode.2.1 18 = .ok (.dup, 1) := by decide +kernel
theorem dX7_addNode_19 : decode M_X7_addNode.2.1 19 = .ok (.getfield 59, 3) := by decide +kernel
theorem dX7_addNode_22 : decode M_X7_addNode.2.1 22 = .ok (.iconst 1, 1) := by decide +kernel
theorem dX7_addNode_23 : decode M_X7_addNode.2.1 23 = .ok (.iadd, 1) := by decide +kernel
theorem dX7_addNode_24 : decode M_X7_addNode.2.1 24 = .ok (.putfield 59, 3) := by decide +kernel
theorem dX7_addNode_27 : decode M_X7_addNode.2.1 27 = .ok (.aload_n 0, 1) := by decide +kernel
theorem dX7_addNode_28 : decode M_X7_addNode.2.1 28 = .ok (.getfield 9, 3) := by decide +kernel
theorem dX7_addNode_31 : decode M_X7_addNode.2.1 31 = .ok (.iload_n 3, 1) := by decide +kernel
theorem dX7_addNode_32 : decode M_X7_addNode.2.1 32 = .ok (.iload_n 1, 1) := by decide +kernel
theorem dX7_addNode_33 : decode M_X7_addNode.2.1 33 = .ok (.iastore, 1) := by decide +kernel
theorem dX7_addNode_34 : decode M_X7_addNode.2.1 34 = .ok (.aload_n 0, 1) := by decide +kernel
theorem dX7_addNode_35 : decode M_X7_addNode.2.1 35 = .ok (.getfield 15, 3) := by decide +kernel
theorem dX7_addNode_38 : decode M_X7_addNode.2.1 38 = .ok (.iload_n 3, 1) := by decide +kernel
theorem dX7_addNode_39 : decode M_X7_addNode.2.1 39 = .ok (.iconst (-1), 1) := by decide +kernel
theorem dX7_addNode_40 : decode M_X7_addNode.2.1 40 = .ok (.iastore, 1) := by decide +kernel
theorem dX7_addNode_41 : decode M_X7_addNode.2.1 41 = .ok (.aload_n 0, 1) := by decide +kernel
theorem dX7_addNode_42 : decode M_X7_addNode.2.1 42 = .ok (.getfield 18, 3) := by decide +kernel
theorem dX7_addNode_45 : decode M_X7_addNode.2.1 45 = .ok (.iload_n 3, 1) := by decide +kernel
theorem dX7_addNode_46 : decode M_X7_addNode.2.1 46 = .ok (.iconst (-1), 1) := by decide +kernel
theorem dX7_addNode_47 : decode M_X7_addNode.2.1 47 = .ok (.iastore, 1) := by decide +kernel
theorem dX7_addNode_48 : decode M_X7_addNode.2.1 48 = .ok (.aload_n 0, 1) := by decide +kernel
theorem dX7_addNode_49 : decode M_X7_addNode.2.1 49 = .ok (.getfield 21, 3) := by decide +kernel
theorem dX7_addNode_52 : decode M_X7_addNode.2.1 52 = .ok (.iload_n 3, 1) := by decide +kernel
theorem dX7_addNode_53 : decode M_X7_addNode.2.1 53 = .ok (.iconst (-1), 1) := by decide +kernel
theorem dX7_addNode_54 : decode M_X7_addNode.2.1 54 = .ok (.iastore, 1) := by decide +kernel
theorem dX7_addNode_55 : decode M_X7_addNode.2.1 55 = .ok (.aload_n 0, 1) := by decide +kernel
theorem dX7_addNode_56 : decode M_X7_addNode.2.1 56 = .ok (.getfield 24, 3) := by decide +kernel
theorem dX7_addNode_59 : decode M_X7_addNode.2.1 59 = .ok (.iload_n 3, 1) := by decide +kernel
theorem dX7_addNode_60 : decode M_X7_addNode.2.1 60 = .ok (.iconst 0, 1) := by decide +kernel
theorem dX7_addNode_61 : decode M_X7_addNode.2.1 61 = .ok (.iastore, 1) := by decide +kernel
theorem dX7_addNode_62 : decode M_X7_addNode.2.1 62 = .ok (.aload_n 0, 1) := by decide +kernel
theorem dX7_addNode_63 : decode M_X7_addNode.2.1 63 = .ok (.getfield 27, 3) := by decide +kernel
theorem dX7_addNode_66 : decode M_X7_addNode.2.1 66 = .ok (.iload_n 3, 1) := by decide +kernel
theorem dX7_addNode_67 : decode M_X7_addNode.2.1 67 = .ok (.iconst 0, 1) := by decide +kernel
theorem dX7_addNode_68 : decode M_X7_addNode.2.1 68 = .ok (.iastore, 1) := by decide +kernel
theorem dX7_addNode_69 : decode M_X7_addNode.2.1 69 = .ok (.aload_n 0, 1) := by decide +kernel
theorem dX7_addNode_70 : decode M_X7_addNode.2.1 70 = .ok (.getfield 42, 3) := by decide +kernel
theorem dX7_addNode_73 : decode M_X7_addNode.2.1 73 = .ok (.iload_n 3, 1) := by decide +kernel
theorem dX7_addNode_74 : decode M_X7_addNode.2.1 74 = .ok (.iconst 0, 1) := by decide +kernel
theorem dX7_addNode_75 : decode M_X7_addNode.2.1 75 = .ok (.iastore, 1) := by decide +kernel
theorem dX7_addNode_76 : decode M_X7_addNode.2.1 76 = .ok (.iload_n 3, 1) := by decide +kernel
theorem dX7_addNode_77 : decode M_X7_addNode.2.1 77 = .ok (.iconst 3, 1) := by decide +kernel
theorem dX7_addNode_78 : decode M_X7_addNode.2.1 78 = .ok (.imul, 1) := by decide +kernel
theorem dX7_addNode_79 : decode M_X7_addNode.2.1 79 = .ok (.istore 4, 2) := by decide +kernel
theorem dX7_addNode_81 : decode M_X7_addNode.2.1 81 = .ok (.iload 4, 2) := by decide +kernel
theorem dX7_addNode_83 : decode M_X7_addNode.2.1 83 = .ok (.iload_n 3, 1) := by decide +kernel
theorem dX7_addNode_84 : decode M_X7_addNode.2.1 84 = .ok (.iconst 1, 1) := by decide +kernel
theorem dX7_addNode_85 : decode M_X7_addNode.2.1 85 = .ok (.iadd, 1) := by decide +kernel
theorem dX7_addNode_86 : decode M_X7_addNode.2.1 86 = .ok (.iconst 3, 1) := by decide +kernel
theorem dX7_addNode_87 : decode M_X7_addNode.2.1 87 = .ok (.imul, 1) := by decide +kernel
theorem dX7_addNode_88 : decode M_X7_addNode.2.1 88 = .ok (.if_icmp .ge 17, 3) := by decide +kernel
theorem dX7_addNode_91 : decode M_X7_addNode.2.1 91 = .ok (.aload_n 0, 1) := by decide +kernel
theorem dX7_addNode_92 : decode M_X7_addNode.2.1 92 = .ok (.getfield 49, 3) := by decide +kernel
theorem dX7_addNode_95 : decode M_X7_addNode.2.1 95 = .ok (.iload 4, 2) := by decide +kernel
theorem dX7_addNode_97 : decode M_X7_addNode.2.1 97 = .ok (.lconst 0, 1) := by decide +kernel
theorem dX7_addNode_98 : decode M_X7_addNode.2.1 98 = .ok (.lastore, 1) := by decide +kernel
theorem dX7_addNode_99 : decode M_X7_addNode.2.1 99 = .ok (.iinc 4 1, 3) := by decide +kernel
theorem dX7_addNode_102 : decode M_X7_addNode.2.1 102 = .ok (.goto (-21), 3) := by decide +kernel
theorem dX7_addNode_105 : decode M_X7_addNode.2.1 105 = .ok (.aload_n 2, 1) := by decide +kernel
theorem dX7_addNode_106 : decode M_X7_addNode.2.1 106 = .ok (.aload_n 0, 1) := by decide +kernel
theorem dX7_addNode_107 : decode M_X7_addNode.2.1 107 = .ok (.getfield 45, 3) := by decide +kernel
theorem dX7_addNode_110 : decode M_X7_addNode.2.1 110 = .ok (.iload_n 3, 1) := by decide +kernel
theorem dX7_addNode_111 : decode M_X7_addNode.2.1 111 = .ok (.iconst 3, 1) := by decide +kernel
theorem dX7_addNode_112 : decode M_X7_addNode.2.1 112 = .ok (.imul, 1) := by decide +kernel
theorem dX7_addNode_113 : decode M_X7_addNode.2.1 113 = .ok (.invokevirtual 88, 3) := by decide +kernel
theorem dX7_addNode_116 : decode M_X7_addNode.2.1 116 = .ok (.aload_n 0, 1) := by decide +kernel
theorem dX7_addNode_117 : decode M_X7_addNode.2.1 117 = .ok (.iload_n 1, 1) := by decide +kernel
theorem dX7_addNode_118 : decode M_X7_addNode.2.1 118 = .ok (.invokevirtual 65, 3) := by decide +kernel
theorem dX7_addNode_121 : decode M_X7_addNode.2.1 121 = .ok (.ifCond .eq 69, 3) := by decide +kernel
theorem dX7_addNode_124 : decode M_X7_addNode.2.1 124 = .ok (.aload_n 0, 1) := by decide +kernel
theorem dX7_addNode_125 : decode M_X7_addNode.2.1 125 = .ok (.getfield 27, 3) := by decide +kernel
theorem dX7_addNode_128 : decode M_X7_addNode.2.1 128 = .ok (.iload_n 3, 1) := by decide +kernel
theorem dX7_addNode_129 : decode M_X7_addNode.2.1 129 = .ok (.aload_n 0, 1) := by decide +kernel
theorem dX7_addNode_130 : decode M_X7_addNode.2.1 130 = .ok (.getfield 27, 3) := by decide +kernel
theorem dX7_addNode_133 : decode M_X7_addNode.2.1 133 = .ok (.iload_n 1, 1) := by decide +kernel
theorem dX7_addNode_134 : decode M_X7_addNode.2.1 134 = .ok (.iaload, 1) := by decide +kernel
theorem dX7_addNode_135 : decode M_X7_addNode.2.1 135 = .ok (.iconst 1, 1) := by decide +kernel
theorem dX7_addNode_136 : decode M_X7_addNode.2.1 136 = .ok (.iadd, 1) := by decide +kernel
theorem dX7_addNode_137 : decode M_X7_addNode.2.1 137 = .ok (.iastore, 1) := by decide +kernel
theorem dX7_addNode_138 : decode M_X7_addNode.2.1 138 = .ok (.aload_n 0, 1) := by decide +kernel
theorem dX7_addNode_139 : decode M_X7_addNode.2.1 139 = .ok (.getfield 18, 3) := by decide +kernel
theorem dX7_addNode_142 : decode M_X7_addNode.2.1 142 = .ok (.iload_n 1, 1) := by decide +kernel
theorem dX7_addNode_143 : decode M_X7_addNode.2.1 143 = .ok (.iaload, 1) := by decide +kernel
theorem dX7_addNode_144 : decode M_X7_addNode.2.1 144 = .ok (.istore 4, 2) := by decide +kernel
theorem dX7_addNode_146 : decode M_X7_addNode.2.1 146 = .ok (.aload_n 0, 1) := by decide +kernel
theorem dX7_addNode_147 : decode M_X7_addNode.2.1 147 = .ok (.iload 4, 2) := by decide +kernel
theorem dX7_addNode_149 : decode M_X7_addNode.2.1 149 = .ok (.invokevirtual 65, 3) := by decide +kernel
theorem dX7_addNode_152 : decode M_X7_addNode.2.1 152 = .ok (.ifCond .eq 14, 3) := by decide +kernel
theorem dX7_addNode_155 : decode M_X7_addNode.2.1 155 = .ok (.aload_n 0, 1) := by decide +kernel
theorem dX7_addNode_156 : decode M_X7_addNode.2.1 156 = .ok (.getfield 21, 3) := by decide +kernel
theorem dX7_addNode_159 : decode M_X7_addNode.2.1 159 = .ok (.iload 4, 2) := by decide +kernel
theorem dX7_addNode_161 : decode M_X7_addNode.2.1 161 = .ok (.iload_n 3, 1) := by decide +kernel
theorem dX7_addNode_162 : decode M_X7_addNode.2.1 162 = .ok (.iastore, 1) := by decide +kernel
theorem dX7_addNode_163 : decode M_X7_addNode.2.1 163 = .ok (.goto 10, 3) := by decide +kernel
theorem dX7_addNode_166 : decode M_X7_addNode.2.1 166 = .ok (.aload_n 0, 1) := by decide +kernel
theorem dX7_addNode_167 : decode M_X7_addNode.2.1 167 = .ok (.getfield 15, 3) := by decide +kernel
theorem dX7_addNode_170 : decode M_X7_addNode.2.1 170 = .ok (.iload_n 1, 1) := by decide +kernel
theorem dX7_addNode_171 : decode M_X7_addNode.2.1 171 = .ok (.iload_n 3, 1) := by decide +kernel
theorem dX7_addNode_172 : decode M_X7_addNode.2.1 172 = .ok (.iastore, 1) := by decide +kernel
theorem dX7_addNode_173 : decode M_X7_addNode.2.1 173 = .ok (.aload_n 0, 1) := by decide +kernel
theorem dX7_addNode_174 : decode M_X7_addNode.2.1 174 = .ok (.getfield 18, 3) := by decide +kernel
theorem dX7_addNode_177 : decode M_X7_addNode.2.1 177 = .ok (.iload_n 1, 1) := by decide +kernel
theorem dX7_addNode_178 : decode M_X7_addNode.2.1 178 = .ok (.iload_n 3, 1) := by decide +kernel
theorem dX7_addNode_179 : decode M_X7_addNode.2.1 179 = .ok (.iastore, 1) := by decide +kernel
theorem dX7_addNode_180 : decode M_X7_addNode.2.1 180 = .ok (.aload_n 0, 1) := by decide +kernel
theorem dX7_addNode_181 : decode M_X7_addNode.2.1 181 = .ok (.getfield 24, 3) := by decide +kernel
theorem dX7_addNode_184 : decode M_X7_addNode.2.1 184 = .ok (.iload_n 1, 1) := by decide +kernel
theorem dX7_addNode_185 : decode M_X7_addNode.2.1 185 = .ok (.dup2, 1) := by decide +kernel
theorem dX7_addNode_186 : decode M_X7_addNode.2.1 186 = .ok (.iaload, 1) := by decide +kernel
theorem dX7_addNode_187 : decode M_X7_addNode.2.1 187 = .ok (.iconst 1, 1) := by decide +kernel
theorem dX7_addNode_188 : decode M_X7_addNode.2.1 188 = .ok (.iadd, 1) := by decide +kernel
theorem dX7_addNode_189 : decode M_X7_addNode.2.1 189 = .ok (.iastore, 1) := by decide +kernel
theorem dX7_addNode_190 : decode M_X7_addNode.2.1 190 = .ok (.iload_n 3, 1) := by decide +kernel
theorem dX7_addNode_191 : decode M_X7_addNode.2.1 191 = .ok (.ireturn, 1) := by decide +kernel
def L_X7_addNode_81 (X : ZX) (d n : Nat) (P : Option Value → ZSto → Prop) (o0 : Nat) (x1 : Int) (o2 : Nat) (x3 : Int) (x4 : Int) (σ : ZSto) : Prop := R32 x1 → R32 x3 → R32 x4 → ZOk n σ → Zn X M_X7_addNode d n P 81 [some (.ref (zB X + o0)), some (iV x1), some (.ref (zB X + o2)), some (iV x3), some (iV x4)] [] σ
theorem w_X7_addNode {X : ZX} {d n : Nat} {P : Int → ZSto → Prop} {o0 : Nat} {x1 : Int} {o2 : Nat} {σ : ZSto} (hn : 73 ≤ n) (hc0 : zIsT o0) (hc2 : zIsB o2) (hx1 : R32 x1)
    (h : (gI σ o0 15 < 250 → (∀ y4 : Int, y4 = gI σ o0 15 → R32 ((gI σ o0 15) + 1) ∧ (0 ≤ y4 ∧ y4 < 250) ∧ R32 (y4 * 3) ∧ L_X7_addNode_81 X d n (zpI P) o0 x1 o2 y4 (y4 * 3) (sI (sI (sI (sI (sI (sI (sI (sI σ o0 15 ((gI σ o0 15) + 1)) (o0 + 1) y4.toNat x1) (o0 + 2) y4.toNat ((-1))) (o0 + 3) y4.toNat ((-1))) (o0 + 4) y4.toNat ((-1))) (o0 + 5) y4.toNat 0) (o0 + 6) y4.toNat 0) (o0 + 11) y4.toNat 0))) ∧ (¬ (gI σ o0 15 < 250) → P ((-1)) σ)) :
    ZkI X M_X7_addNode (d + 1) n [.ref (zB X + o0), iV x1, .ref (zB X + o2)] σ P := by
  refine zk_of (ls := [some (.ref (zB X + o0)), some (iV x1), some (.ref (zB X + o2)), none, none]) pl_RX7 (Nat.le_of_ble_eq_true rfl) rfl (fun k0 => ?_)
  unfold Zn
  refine r_aload_n dX7_addNode_0 rfl ?_
  refine r_getI dX7_addNode_1 kf_RX7_59 (zT_lt hc0 hn) (zT_s hc0) (Or.inl rfl) rfl ?_
  refine r_sipush dX7_addNode_4 rfl ?_
  refine r_icmp_lt (t := 12) dX7_addNode_7 rfl (k0.2.1 _ _) (r32c rfl) (fun c1 => ?_) (fun c2 => ?_)
  · have h3 := h.1 c1
    refine r_aload_n dX7_addNode_12 rfl ?_
    refine r_getI dX7_addNode_13 kf_RX7_59 (zT_lt hc0 hn) (zT_s hc0) (Or.inl rfl) rfl ?_
    refine r_name (fun y4 e5 => ?_)
    have h6 := h3 y4 e5
    refine r_istore_n dX7_addNode_16 rfl rfl ?_
    refine r_aload_n dX7_addNode_17 rfl ?_
    refine r_dup dX7_addNode_18 rfl ?_
    refine r_getI dX7_addNode_19 kf_RX7_59 (zT_lt hc0 hn) (zT_s hc0) (Or.inl rfl) rfl ?_
    refine r_iconst dX7_addNode_22 ?_
    refine r_iadd dX7_addNode_23 ?_
    obtain ⟨h7, h8⟩ := h6
    refine r_putI dX7_addNode_24 kf_RX7_59 (zT_lt hc0 hn) (zT_s hc0) rfl (Or.inl rfl) ?_
    have k9 := zok_o (i := 15) (x := (gI σ o0 15) + 1) k0 (zT_s hc0) h7
    refine r_aload_n dX7_addNode_27 rfl ?_
    refine r_getP (a := (o0 + 1)) dX7_addNode_28 kf_RX7_9 (zT_lt hc0 hn) (zT_s hc0) rfl (k9.1 _ _ _ (zT_lt hc0 hn) (zT_p0 hc0)) ?_
    refine r_iload_n dX7_addNode_31 rfl ?_
    refine r_iload_n dX7_addNode_32 rfl ?_
    obtain ⟨h10, h11⟩ := h8
    refine r_iastore dX7_addNode_33 (zT_l0 hc0 hn) (zT_s0 hc0) h10.1 h10.2 ?_
    have k12 := zok_i (i := y4.toNat) (x := x1) k9 (zT_s0 hc0) hx1
    refine r_aload_n dX7_addNode_34 rfl ?_
    refine r_getP (a := (o0 + 2)) dX7_addNode_35 kf_RX7_15 (zT_lt hc0 hn) (zT_s hc0) rfl (k12.1 _ _ _ (zT_lt hc0 hn) (zT_p1 hc0)) ?_
    refine r_iload_n dX7_addNode_38 rfl ?_
    refine r_iconst dX7_addNode_39 ?_
    refine r_iastore dX7_addNode_40 (zT_l1 hc0 hn) (zT_s1 hc0) h10.1 h10.2 ?_
    have k13 := zok_i (i := y4.toNat) (x := (-1)) k12 (zT_s1 hc0) (r32c rfl)
    refine r_aload_n dX7_addNode_41 rfl ?_
    refine r_getP (a := (o0 + 3)) dX7_addNode_42 kf_RX7_18 (zT_lt hc0 hn) (zT_s hc0) rfl (k13.1 _ _ _ (zT_lt hc0 hn) (zT_p2 hc0)) ?_
    refine r_iload_n dX7_addNode_45 rfl ?_
    refine r_iconst dX7_addNode_46 ?_
    refine r_iastore dX7_addNode_47 (zT_l2 hc0 hn) (zT_s2 hc0) h10.1 h10.2 ?_
    have k14 := zok_i (i := y4.toNat) (x := (-1)) k13 (zT_s2 hc0) (r32c rfl)
    refine r_aload_n dX7_addNode_48 rfl ?_
    refine r_getP (a := (o0 + 4)) dX7_addNode_49 kf_RX7_21 (zT_lt hc0 hn) (zT_s hc0) rfl (k14.1 _ _ _ (zT_lt hc0 hn) (zT_p3 hc0)) ?_
    refine r_iload_n dX7_addNode_52 rfl ?_
    refine r_iconst dX7_addNode_53 ?_
    refine r_iastore dX7_addNode_54 (zT_l3 hc0 hn) (zT_s3 hc0) h10.1 h10.2 ?_
    have k15 := zok_i (i := y4.toNat) (x := (-1)) k14 (zT_s3 hc0) (r32c rfl)
    refine r_aload_n dX7_addNode_55 rfl ?_
    refine r_getP (a := (o0 + 5)) dX7_addNode_56 kf_RX7_24 (zT_lt hc0 hn) (zT_s hc0) rfl (k15.1 _ _ _ (zT_lt hc0 hn) (zT_p4 hc0)) ?_
    refine r_iload_n dX7_addNode_59 rfl ?_
    refine r_iconst dX7_addNode_60 ?_
    refine r_iastore dX7_addNode_61 (zT_l4 hc0 hn) (zT_s4 hc0) h10.1 h10.2 ?_
    have k16 := zok_i (i := y4.toNat) (x := 0) k15 (zT_s4 hc0) (r32c rfl)
    refine r_aload_n dX7_addNode_62 rfl ?_
    refine r_getP (a := (o0 + 6)) dX7_addNode_63 kf_RX7_27 (zT_lt hc0 hn) (zT_s hc0) rfl (k16.1 _ _ _ (zT_lt hc0 hn) (zT_p5 hc0)) ?_
    refine r_iload_n dX7_addNode_66 rfl ?_
    refine r_iconst dX7_addNode_67 ?_
    refine r_iastore dX7_addNode_68 (zT_l5 hc0 hn) (zT_s5 hc0) h10.1 h10.2 ?_
    have k17 := zok_i (i := y4.toNat) (x := 0) k16 (zT_s5 hc0) (r32c rfl)
    refine r_aload_n dX7_addNode_69 rfl ?_
    refine r_getP (a := (o0 + 11)) dX7_addNode_70 kf_RX7_42 (zT_lt hc0 hn) (zT_s hc0) rfl (k17.1 _ _ _ (zT_lt hc0 hn) (zT_p10 hc0)) ?_
    refine r_iload_n dX7_addNode_73 rfl ?_
    refine r_iconst dX7_addNode_74 ?_
    refine r_iastore dX7_addNode_75 (zT_l10 hc0 hn) (zT_s10 hc0) h10.1 h10.2 ?_
    have k18 := zok_i (i := y4.toNat) (x := 0) k17 (zT_s10 hc0) (r32c rfl)
    refine r_iload_n dX7_addNode_76 rfl ?_
    refine r_iconst dX7_addNode_77 ?_
    refine r_imul dX7_addNode_78 ?_
    refine r_istore dX7_addNode_79 rfl rfl ?_
    obtain ⟨h19, h20⟩ := h11
    exact r_mask [true, true, true, true, true] rfl (h20 hx1 (by rw [e5]; exact (k0.2.1 _ _)) h19 k18)
  · have h21 := h.2 c2
    refine r_iconst dX7_addNode_10 ?_
    exact r_ireturn dX7_addNode_11 rfl ⟨k0, _, rfl, (r32c rfl), h21⟩
theorem b_X7_addNode_81 {X : ZX} {d n : Nat} {P : Int → ZSto → Prop} {o0 : Nat} {x1 : Int} {o2 : Nat} {x3 : Int} {x4 : Int} {σ : ZSto} (hn : 73 ≤ n) (hc0 : zIsT o0) (hc2 : zIsB o2)
    (h : R32 ((x3 + 1) * 3) ∧ ((x3 + 1) * 3 ≤ x4 → ZkV X M_X0_store d n [.ref (zB X + o2), .ref (zB X + (o0 + 12)), iV (x3 * 3)] σ (fun σ7 => ZkZ X M_X7_has d n [.ref (zB X + o0), iV x1] σ7 (fun v11 σ12 => (v11 = 0 → P x3 σ12) ∧ (¬ (v11 = 0) → (0 ≤ x1 ∧ x1 < 250) ∧ (0 ≤ x3 ∧ x3 < 250) ∧ R32 ((gI σ12 (o0 + 6) x1.toNat) + 1) ∧ (∀ y27 : Int, y27 = gI σ12 (o0 + 3) x1.toNat → ZkZ X M_X7_has d n [.ref (zB X + o0), iV y27] (sI σ12 (o0 + 6) x3.toNat ((gI σ12 (o0 + 6) x1.toNat) + 1)) (fun v30 σ31 => (v30 = 0 → R32 ((gI σ31 (o0 + 5) x1.toNat) + 1) ∧ P x3 (sI (sI (sI σ31 (o0 + 2) x1.toNat x3) (o0 + 3) x1.toNat x3) (o0 + 5) x1.toNat ((gI σ31 (o0 + 5) x1.toNat) + 1))) ∧ (¬ (v30 = 0) → (0 ≤ y27 ∧ y27 < 250) ∧ R32 ((gI σ31 (o0 + 5) x1.toNat) + 1) ∧ P x3 (sI (sI (sI σ31 (o0 + 4) y27.toNat x3) (o0 + 3) x1.toNat x3) (o0 + 5) x1.toNat ((gI σ31 (o0 + 5) x1.toNat) + 1))))))))) ∧ (¬ ((x3 + 1) * 3 ≤ x4) → (0 ≤ x4 ∧ x4 < 750) ∧ R32 (x4 + 1) ∧ L_X7_addNode_81 X d n (zpI P) o0 x1 o2 x3 (x4 + 1) (sL σ (o0 + 13) x4.toNat ((0 : Int64))))) :
    L_X7_addNode_81 X d n (zpI P) o0 x1 o2 x3 x4 σ := by
  intro hx1 hx3 hx4 k0
  unfold Zn
  refine r_iload dX7_addNode_81 rfl ?_
  refine r_iload_n dX7_addNode_83 rfl ?_
  refine r_iconst dX7_addNode_84 ?_
  refine r_iadd dX7_addNode_85 ?_
  refine r_iconst dX7_addNode_86 ?_
  refine r_imul dX7_addNode_87 ?_
  obtain ⟨h1, h2⟩ := h
  refine r_icmp_ge (t := 105) dX7_addNode_88 rfl hx4 h1 (fun c3 => ?_) (fun c4 => ?_)
  · have h5 := h2.1 c3
    refine r_aload_n dX7_addNode_105 rfl ?_
    refine r_aload_n dX7_addNode_106 rfl ?_
    refine r_getP (a := (o0 + 12)) dX7_addNode_107 kf_RX7_45 (zT_lt hc0 hn) (zT_s hc0) rfl (k0.1 _ _ _ (zT_lt hc0 hn) (zT_p11 hc0)) ?_
    refine r_iload_n dX7_addNode_110 rfl ?_
    refine r_iconst dX7_addNode_111 ?_
    refine r_imul dX7_addNode_112 ?_
    refine n_callV (N := M_X0_store) (As := [.ref (zB X + (o0 + 12)), iV (x3 * 3)]) (st := []) dX7_addNode_113 mk_X0_store km_RX7_88 kd_X0_store rfl (zB_lt hc2 hn) (zB_s hc2) (q := (RX0, TX0, 13)) rfl rfl (zFits_rm d n n n (Nat.le_refl n)) (Nat.le_of_ble_eq_true rfl) rfl k0 h5 ?_
    rintro _ σ7 k8 ⟨rfl, h10⟩
    change Zm _ _ _ _ _ _ 116 _ [] _
    refine r_aload_n dX7_addNode_116 rfl ?_
    refine r_iload_n dX7_addNode_117 rfl ?_
    refine n_callV (N := M_X7_has) (As := [iV x1]) (st := []) dX7_addNode_118 mk_X7_has km_RX7_65 kd_X7_has rfl (zT_lt hc0 hn) (zT_s hc0) (q := (RX7, TX7, 17)) rfl rfl (zFits_rm d n n n (Nat.le_refl n)) (Nat.le_of_ble_eq_true rfl) rfl k8 h10 ?_
    rintro _ σ12 k13 ⟨v11, rfl, h14, h15⟩
    change Zm _ _ _ _ _ _ 121 _ [iV v11] _
    refine r_if_eq (t := 190) dX7_addNode_121 rfl (r32_z h14)  (fun c16 => ?_) (fun c17 => ?_)
    · have h18 := h15.1 c16
      refine r_iload_n dX7_addNode_190 rfl ?_
      exact r_ireturn dX7_addNode_191 rfl ⟨k13, _, rfl, hx3, h18⟩
    · have h19 := h15.2 c17
      refine r_aload_n dX7_addNode_124 rfl ?_
      refine r_getP (a := (o0 + 6)) dX7_addNode_125 kf_RX7_27 (zT_lt hc0 hn) (zT_s hc0) rfl (k13.1 _ _ _ (zT_lt hc0 hn) (zT_p5 hc0)) ?_
      refine r_iload_n dX7_addNode_128 rfl ?_
      refine r_aload_n dX7_addNode_129 rfl ?_
      refine r_getP (a := (o0 + 6)) dX7_addNode_130 kf_RX7_27 (zT_lt hc0 hn) (zT_s hc0) rfl (k13.1 _ _ _ (zT_lt hc0 hn) (zT_p5 hc0)) ?_
      refine r_iload_n dX7_addNode_133 rfl ?_
      obtain ⟨h20, h21⟩ := h19
      refine r_ialoadE dX7_addNode_134 (zT_l5 hc0 hn) (zT_s5 hc0) h20.1 h20.2 rfl ?_
      refine r_iconst dX7_addNode_135 ?_
      refine r_iadd dX7_addNode_136 ?_
      obtain ⟨h22, h23⟩ := h21
      obtain ⟨h25, h26⟩ := h23
      refine r_iastore dX7_addNode_137 (zT_l5 hc0 hn) (zT_s5 hc0) h22.1 h22.2 ?_
      have k24 := zok_i (i := x3.toNat) (x := (gI σ12 (o0 + 6) x1.toNat) + 1) k13 (zT_s5 hc0) h25
      refine r_aload_n dX7_addNode_138 rfl ?_
      refine r_getP (a := (o0 + 3)) dX7_addNode_139 kf_RX7_18 (zT_lt hc0 hn) (zT_s hc0) rfl (k24.1 _ _ _ (zT_lt hc0 hn) (zT_p2 hc0)) ?_
      refine r_iload_n dX7_addNode_142 rfl ?_
      refine r_ialoadE dX7_addNode_143 (zT_l2 hc0 hn) (zT_s2 hc0) h20.1 h20.2 (gI_c (by omega)) ?_
      refine r_name (fun y27 e28 => ?_)
      have h29 := h26 y27 e28
      refine r_istore dX7_addNode_144 rfl rfl ?_
      refine r_aload_n dX7_addNode_146 rfl ?_
      refine r_iload dX7_addNode_147 rfl ?_
      refine n_callV (N := M_X7_has) (As := [iV y27]) (st := []) dX7_addNode_149 mk_X7_has km_RX7_65 kd_X7_has rfl (zT_lt hc0 hn) (zT_s hc0) (q := (RX7, TX7, 17)) rfl rfl (zFits_rm d n n n (Nat.le_refl n)) (Nat.le_of_ble_eq_true rfl) rfl k24 h29 ?_
      rintro _ σ31 k32 ⟨v30, rfl, h33, h34⟩
      change Zm _ _ _ _ _ _ 152 _ [iV v30] _
      refine r_if_eq (t := 166) dX7_addNode_152 rfl (r32_z h33)  (fun c35 => ?_) (fun c36 => ?_)
      · have h37 := h34.1 c35
        refine r_aload_n dX7_addNode_166 rfl ?_
        refine r_getP (a := (o0 + 2)) dX7_addNode_167 kf_RX7_15 (zT_lt hc0 hn) (zT_s hc0) rfl (k32.1 _ _ _ (zT_lt hc0 hn) (zT_p1 hc0)) ?_
        refine r_iload_n dX7_addNode_170 rfl ?_
        refine r_iload_n dX7_addNode_171 rfl ?_
        refine r_iastore dX7_addNode_172 (zT_l1 hc0 hn) (zT_s1 hc0) h20.1 h20.2 ?_
        have k38 := zok_i (i := x1.toNat) (x := x3) k32 (zT_s1 hc0) hx3
        refine r_aload_n dX7_addNode_173 rfl ?_
        refine r_getP (a := (o0 + 3)) dX7_addNode_174 kf_RX7_18 (zT_lt hc0 hn) (zT_s hc0) rfl (k38.1 _ _ _ (zT_lt hc0 hn) (zT_p2 hc0)) ?_
        refine r_iload_n dX7_addNode_177 rfl ?_
        refine r_iload_n dX7_addNode_178 rfl ?_
        refine r_iastore dX7_addNode_179 (zT_l2 hc0 hn) (zT_s2 hc0) h20.1 h20.2 ?_
        have k39 := zok_i (i := x1.toNat) (x := x3) k38 (zT_s2 hc0) hx3
        refine r_aload_n dX7_addNode_180 rfl ?_
        refine r_getP (a := (o0 + 5)) dX7_addNode_181 kf_RX7_24 (zT_lt hc0 hn) (zT_s hc0) rfl (k39.1 _ _ _ (zT_lt hc0 hn) (zT_p4 hc0)) ?_
        refine r_iload_n dX7_addNode_184 rfl ?_
        refine r_dup2 dX7_addNode_185 rfl rfl ?_
        refine r_ialoadE dX7_addNode_186 (zT_l4 hc0 hn) (zT_s4 hc0) h20.1 h20.2 ((gI_c (by omega)).trans (gI_c (by omega))) ?_
        refine r_iconst dX7_addNode_187 ?_
        refine r_iadd dX7_addNode_188 ?_
        obtain ⟨h41, h42⟩ := h37
        refine r_iastore dX7_addNode_189 (zT_l4 hc0 hn) (zT_s4 hc0) h20.1 h20.2 ?_
        have k40 := zok_i (i := x1.toNat) (x := (gI σ31 (o0 + 5) x1.toNat) + 1) k39 (zT_s4 hc0) h41
        refine r_iload_n dX7_addNode_190 rfl ?_
        exact r_ireturn dX7_addNode_191 rfl ⟨k40, _, rfl, hx3, h42⟩
      · have h43 := h34.2 c36
        refine r_aload_n dX7_addNode_155 rfl ?_
        refine r_getP (a := (o0 + 4)) dX7_addNode_156 kf_RX7_21 (zT_lt hc0 hn) (zT_s hc0) rfl (k32.1 _ _ _ (zT_lt hc0 hn) (zT_p3 hc0)) ?_
        refine r_iload dX7_addNode_159 rfl ?_
        refine r_iload_n dX7_addNode_161 rfl ?_
        obtain ⟨h44, h45⟩ := h43
        refine r_iastore dX7_addNode_162 (zT_l3 hc0 hn) (zT_s3 hc0) h44.1 h44.2 ?_
        have k46 := zok_i (i := y27.toNat) (x := x3) k32 (zT_s3 hc0) hx3
        refine r_goto (t := 173) dX7_addNode_163 rfl ?_
        refine r_aload_n dX7_addNode_173 rfl ?_
        refine r_getP (a := (o0 + 3)) dX7_addNode_174 kf_RX7_18 (zT_lt hc0 hn) (zT_s hc0) rfl (k46.1 _ _ _ (zT_lt hc0 hn) (zT_p2 hc0)) ?_
        refine r_iload_n dX7_addNode_177 rfl ?_
        refine r_iload_n dX7_addNode_178 rfl ?_
        refine r_iastore dX7_addNode_179 (zT_l2 hc0 hn) (zT_s2 hc0) h20.1 h20.2 ?_
        have k47 := zok_i (i := x1.toNat) (x := x3) k46 (zT_s2 hc0) hx3
        refine r_aload_n dX7_addNode_180 rfl ?_
        refine r_getP (a := (o0 + 5)) dX7_addNode_181 kf_RX7_24 (zT_lt hc0 hn) (zT_s hc0) rfl (k47.1 _ _ _ (zT_lt hc0 hn) (zT_p4 hc0)) ?_
        refine r_iload_n dX7_addNode_184 rfl ?_
        refine r_dup2 dX7_addNode_185 rfl rfl ?_
        refine r_ialoadE dX7_addNode_186 (zT_l4 hc0 hn) (zT_s4 hc0) h20.1 h20.2 ((gI_c (by omega)).trans (gI_c (by omega))) ?_
        refine r_iconst dX7_addNode_187 ?_
        refine r_iadd dX7_addNode_188 ?_
        obtain ⟨h49, h50⟩ := h45
        refine r_iastore dX7_addNode_189 (zT_l4 hc0 hn) (zT_s4 hc0) h20.1 h20.2 ?_
        have k48 := zok_i (i := x1.toNat) (x := (gI σ31 (o0 + 5) x1.toNat) + 1) k47 (zT_s4 hc0) h49
        refine r_iload_n dX7_addNode_190 rfl ?_
        exact r_ireturn dX7_addNode_191 rfl ⟨k48, _, rfl, hx3, h50⟩
  · have h51 := h2.2 c4
    refine r_aload_n dX7_addNode_91 rfl ?_
    refine r_getP (a := (o0 + 13)) dX7_addNode_92 kf_RX7_49 (zT_lt hc0 hn) (zT_s hc0) rfl (k0.1 _ _ _ (zT_lt hc0 hn) (zT_p12 hc0)) ?_
    refine r_iload dX7_addNode_95 rfl ?_
    refine r_lconst (v := 0) dX7_addNode_97 rfl ?_
    obtain ⟨h52, h53⟩ := h51
    refine r_lastore dX7_addNode_98 (zT_l12 hc0 hn) (zT_s12 hc0) h52.1 h52.2 ?_
    have k54 := zok_l (a := (o0 + 13)) (i := x4.toNat) (x := (0 : Int64)) k0
    refine r_iinc dX7_addNode_99 rfl rfl rfl ?_
    refine r_goto (t := 81) dX7_addNode_102 rfl ?_
    obtain ⟨h55, h56⟩ := h53
    exact r_mask [true, true, true, true, true] rfl (h56 hx1 hx3 h55 k54)
/-! StoneRoom$Tree.nthChild -/
theorem dX7_nthChild_0 : decode M_X7_nthChild.2.1 0 = .ok (.aload_n 0, 1) := by decide +kernel
theorem dX7_nthChild_1 : decode M_X7_nthChild.2.1 1 = .ok (.iload_n 1, 1) := by decide +kernel
theorem dX7_nthChild_2 : decode M_X7_nthChild.2.1 2 = .ok (.invokevirtual 65, 3) := by decide +kernel
theorem dX7_nthChild_5 : decode M_X7_nthChild.2.1 5 = .ok (.ifCond .eq 17, 3) := by decide +kernel
theorem dX7_nthChild_8 : decode M_X7_nthChild.2.1 8 = .ok (.iload_n 2, 1) := by decide +kernel
theorem dX7_nthChild_9 : decode M_X7_nthChild.2.1 9 = .ok (.ifCond .lt 13, 3) := by decide +kernel
theorem dX7_nthChild_12 : decode M_X7_nthChild.2.1 12 = .ok (.iload_n 2, 1) := by decide +kernel
theorem dX7_nthChild_13 : decode M_X7_nthChild.2.1 13 = .ok (.aload_n 0, 1) := by decide +kernel
theorem dX7_nthChild_14 : decode M_X7_nthChild.2.1 14 = .ok (.getfield 24, 3) := by decide +kernel
theorem dX7_nthChild_17 : decode M_X7_nthChild.2.1 17 = .ok (.iload_n 1, 1) := by decide +kernel
theorem dX7_nthChild_18 : decode M_X7_nthChild.2.1 18 = .ok (.iaload, 1) := by decide +kernel
theorem dX7_nthChild_19 : decode M_X7_nthChild.2.1 19 = .ok (.if_icmp .lt 5, 3) := by decide +kernel
theorem dX7_nthChild_22 : decode M_X7_nthChild.2.1 22 = .ok (.iconst (-1), 1) := by decide +kernel
theorem dX7_nthChild_23 : decode M_X7_nthChild.2.1 23 = .ok (.ireturn, 1) := by decide +kernel
theorem dX7_nthChild_24 : decode M_X7_nthChild.2.1 24 = .ok (.aload_n 0, 1) := by decide +kernel
theorem dX7_nthChild_25 : decode M_X7_nthChild.2.1 25 = .ok (.getfield 15, 3) := by decide +kernel
theorem dX7_nthChild_28 : decode M_X7_nthChild.2.1 28 = .ok (.iload_n 1, 1) := by decide +kernel
theorem dX7_nthChild_29 : decode M_X7_nthChild.2.1 29 = .ok (.iaload, 1) := by decide +kernel
theorem dX7_nthChild_30 : decode M_X7_nthChild.2.1 30 = .ok (.istore_n 3, 1) := by decide +kernel
theorem dX7_nthChild_31 : decode M_X7_nthChild.2.1 31 = .ok (.iconst 0, 1) := by decide +kernel
theorem dX7_nthChild_32 : decode M_X7_nthChild.2.1 32 = .ok (.istore 4, 2) := by decide +kernel
theorem dX7_nthChild_34 : decode M_X7_nthChild.2.1 34 = .ok (.iload 4, 2) := by decide +kernel
theorem dX7_nthChild_36 : decode M_X7_nthChild.2.1 36 = .ok (.iload_n 2, 1) := by decide +kernel
theorem dX7_nthChild_37 : decode M_X7_nthChild.2.1 37 = .ok (.if_icmp .ge 24, 3) := by decide +kernel
theorem dX7_nthChild_40 : decode M_X7_nthChild.2.1 40 = .ok (.aload_n 0, 1) := by decide +kernel
theorem dX7_nthChild_41 : decode M_X7_nthChild.2.1 41 = .ok (.iload_n 3, 1) := by decide +kernel
theorem dX7_nthChild_42 : decode M_X7_nthChild.2.1 42 = .ok (.invokevirtual 65, 3) := by decide +kernel
theorem dX7_nthChild_45 : decode M_X7_nthChild.2.1 45 = .ok (.ifCond .eq 16, 3) := by decide +kernel
theorem dX7_nthChild_48 : decode M_X7_nthChild.2.1 48 = .ok (.aload_n 0, 1) := by decide +kernel
theorem dX7_nthChild_49 : decode M_X7_nthChild.2.1 49 = .ok (.getfield 21, 3) := by decide +kernel
theorem dX7_nthChild_52 : decode M_X7_nthChild.2.1 52 = .ok (.iload_n 3, 1) := by decide +kernel
theorem dX7_nthChild_53 : decode M_X7_nthChild.2.1 53 = .ok (.iaload, 1) := by decide +kernel
theorem dX7_nthChild_54 : decode M_X7_nthChild.2.1 54 = .ok (.istore_n 3, 1) := by decide +kernel
theorem dX7_nthChild_55 : decode M_X7_nthChild.2.1 55 = .ok (.iinc 4 1, 3) := by decide +kernel
theorem dX7_nthChild_58 : decode M_X7_nthChild.2.1 58 = .ok (.goto (-24), 3) := by decide +kernel
theorem dX7_nthChild_61 : decode M_X7_nthChild.2.1 61 = .ok (.iload_n 3, 1) := by decide +kernel
theorem dX7_nthChild_62 : decode M_X7_nthChild.2.1 62 = .ok (.ireturn, 1) := by decide +kernel
def L_X7_nthChild_34 (X : ZX) (d n : Nat) (P : Option Value → ZSto → Prop) (o0 : Nat) (x2 : Int) (x3 : Int) (x4 : Int) (σ : ZSto) : Prop := R32 x2 → R32 x3 → R32 x4 → ZOk n σ → Zn X M_X7_nthChild d n P 34 [some (.ref (zB X + o0)), none, some (iV x2), some (iV x3), some (iV x4)] [] σ
theorem w_X7_nthChild {X : ZX} {d n : Nat} {P : Int → ZSto → Prop} {o0 : Nat} {x1 : Int} {x2 : Int} {σ : ZSto} (hn : 73 ≤ n) (hc0 : zIsT o0) (hx1 : R32 x1) (hx2 : R32 x2)
    (h : ZkZ X M_X7_has d n [.ref (zB X + o0), iV x1] σ (fun v1 σ2 => (v1 = 0 → P ((-1)) σ2) ∧ (¬ (v1 = 0) → (x2 < 0 → P ((-1)) σ2) ∧ (¬ (x2 < 0) → (0 ≤ x1 ∧ x1 < 250) ∧ (x2 < gI σ2 (o0 + 5) x1.toNat → (∀ y19 : Int, y19 = gI σ2 (o0 + 2) x1.toNat → L_X7_nthChild_34 X d n (zpI P) o0 x2 y19 0 σ2)) ∧ (¬ (x2 < gI σ2 (o0 + 5) x1.toNat) → P ((-1)) σ2))))) :
    ZkI X M_X7_nthChild (d + 1) n [.ref (zB X + o0), iV x1, iV x2] σ P := by
  refine zk_of (ls := [some (.ref (zB X + o0)), some (iV x1), some (iV x2), none, none]) pl_RX7 (Nat.le_of_ble_eq_true rfl) rfl (fun k0 => ?_)
  unfold Zn
  refine r_aload_n dX7_nthChild_0 rfl ?_
  refine r_iload_n dX7_nthChild_1 rfl ?_
  refine n_callV (N := M_X7_has) (As := [iV x1]) (st := []) dX7_nthChild_2 mk_X7_has km_RX7_65 kd_X7_has rfl (zT_lt hc0 hn) (zT_s hc0) (q := (RX7, TX7, 17)) rfl rfl (zFits_rm d n n n (Nat.le_refl n)) (Nat.le_of_ble_eq_true rfl) rfl k0 h ?_
  rintro _ σ2 k3 ⟨v1, rfl, h4, h5⟩
  change Zm _ _ _ _ _ _ 5 _ [iV v1] _
  refine r_if_eq (t := 22) dX7_nthChild_5 rfl (r32_z h4)  (fun c6 => ?_) (fun c7 => ?_)
  · have h8 := h5.1 c6
    refine r_iconst dX7_nthChild_22 ?_
    exact r_ireturn dX7_nthChild_23 rfl ⟨k3, _, rfl, (r32c rfl), h8⟩
  · have h9 := h5.2 c7
    refine r_iload_n dX7_nthChild_8 rfl ?_
    refine r_if_lt (t := 22) dX7_nthChild_9 rfl hx2  (fun c10 => ?_) (fun c11 => ?_)
    · have h12 := h9.1 c10
      refine r_iconst dX7_nthChild_22 ?_
      exact r_ireturn dX7_nthChild_23 rfl ⟨k3, _, rfl, (r32c rfl), h12⟩
    · have h13 := h9.2 c11
      refine r_iload_n dX7_nthChild_12 rfl ?_
      refine r_aload_n dX7_nthChild_13 rfl ?_
      refine r_getP (a := (o0 + 5)) dX7_nthChild_14 kf_RX7_24 (zT_lt hc0 hn) (zT_s hc0) rfl (k3.1 _ _ _ (zT_lt hc0 hn) (zT_p4 hc0)) ?_
      refine r_iload_n dX7_nthChild_17 rfl ?_
      obtain ⟨h14, h15⟩ := h13
      refine r_ialoadE dX7_nthChild_18 (zT_l4 hc0 hn) (zT_s4 hc0) h14.1 h14.2 rfl ?_
      refine r_icmp_lt (t := 24) dX7_nthChild_19 rfl hx2 (k3.2.1 _ _) (fun c16 => ?_) (fun c17 => ?_)
      · have h18 := h15.1 c16
        refine r_aload_n dX7_nthChild_24 rfl ?_
        refine r_getP (a := (o0 + 2)) dX7_nthChild_25 kf_RX7_15 (zT_lt hc0 hn) (zT_s hc0) rfl (k3.1 _ _ _ (zT_lt hc0 hn) (zT_p1 hc0)) ?_
        refine r_iload_n dX7_nthChild_28 rfl ?_
        refine r_ialoadE dX7_nthChild_29 (zT_l1 hc0 hn) (zT_s1 hc0) h14.1 h14.2 rfl ?_
        refine r_name (fun y19 e20 => ?_)
        have h21 := h18 y19 e20
        refine r_istore_n dX7_nthChild_30 rfl rfl ?_
        refine r_iconst dX7_nthChild_31 ?_
        refine r_istore dX7_nthChild_32 rfl rfl ?_
        exact r_mask [true, false, true, true, true] rfl (h21 hx2 (by rw [e20]; exact (k3.2.1 _ _)) (r32c rfl) k3)
      · have h22 := h15.2 c17
        refine r_iconst dX7_nthChild_22 ?_
        exact r_ireturn dX7_nthChild_23 rfl ⟨k3, _, rfl, (r32c rfl), h22⟩
theorem b_X7_nthChild_34 {X : ZX} {d n : Nat} {P : Int → ZSto → Prop} {o0 : Nat} {x2 : Int} {x3 : Int} {x4 : Int} {σ : ZSto} (hn : 73 ≤ n) (hc0 : zIsT o0)
    (h : (x2 ≤ x4 → P x3 σ) ∧ (¬ (x2 ≤ x4) → ZkZ X M_X7_has d n [.ref (zB X + o0), iV x3] σ (fun v5 σ6 => (v5 = 0 → P x3 σ6) ∧ (¬ (v5 = 0) → (0 ≤ x3 ∧ x3 < 250) ∧ (∀ y16 : Int, y16 = gI σ6 (o0 + 4) x3.toNat → R32 (x4 + 1) ∧ L_X7_nthChild_34 X d n (zpI P) o0 x2 y16 (x4 + 1) σ6))))) :
    L_X7_nthChild_34 X d n (zpI P) o0 x2 x3 x4 σ := by
  intro hx2 hx3 hx4 k0
  unfold Zn
  refine r_iload dX7_nthChild_34 rfl ?_
  refine r_iload_n dX7_nthChild_36 rfl ?_
  refine r_icmp_ge (t := 61) dX7_nthChild_37 rfl hx4 hx2 (fun c1 => ?_) (fun c2 => ?_)
  · have h3 := h.1 c1
    refine r_iload_n dX7_nthChild_61 rfl ?_
    exact r_ireturn dX7_nthChild_62 rfl ⟨k0, _, rfl, hx3, h3⟩
  · have h4 := h.2 c2
    refine r_aload_n dX7_nthChild_40 rfl ?_
    refine r_iload_n dX7_nthChild_41 rfl ?_
    refine n_callV (N := M_X7_has) (As := [iV x3]) (st := []) dX7_nthChild_42 mk_X7_has km_RX7_65 kd_X7_has rfl (zT_lt hc0 hn) (zT_s hc0) (q := (RX7, TX7, 17)) rfl rfl (zFits_rm d n n n (Nat.le_refl n)) (Nat.le_of_ble_eq_true rfl) rfl k0 h4 ?_
    rintro _ σ6 k7 ⟨v5, rfl, h8, h9⟩
    change Zm _ _ _ _ _ _ 45 _ [iV v5] _
    refine r_if_eq (t := 61) dX7_nthChild_45 rfl (r32_z h8)  (fun c10 => ?_) (fun c11 => ?_)
    · have h12 := h9.1 c10
      refine r_iload_n dX7_nthChild_61 rfl ?_
      exact r_ireturn dX7_nthChild_62 rfl ⟨k7, _, rfl, hx3, h12⟩
    · have h13 := h9.2 c11
      refine r_aload_n dX7_nthChild_48 rfl ?_
      refine r_getP (a := (o0 + 4)) dX7_nthChild_49 kf_RX7_21 (zT_lt hc0 hn) (zT_s hc0) rfl (k7.1 _ _ _ (zT_lt hc0 hn) (zT_p3 hc0)) ?_
      refine r_iload_n dX7_nthChild_52 rfl ?_
      obtain ⟨h14, h15⟩ := h13
      refine r_ialoadE dX7_nthChild_53 (zT_l3 hc0 hn) (zT_s3 hc0) h14.1 h14.2 rfl ?_
      refine r_name (fun y16 e17 => ?_)
      have h18 := h15 y16 e17
      refine r_istore_n dX7_nthChild_54 rfl rfl ?_
      refine r_iinc dX7_nthChild_55 rfl rfl rfl ?_
      refine r_goto (t := 34) dX7_nthChild_58 rfl ?_
      obtain ⟨h19, h20⟩ := h18
      exact r_mask [true, false, true, true, true] rfl (h20 hx2 (by rw [e17]; exact (k7.2.1 _ _)) h19 k7)
/-! StoneRoom$Tree.childOf -/
theorem dX7_childOf_0 : decode M_X7_childOf.2.1 0 = .ok (.aload_n 0, 1) := by decide +kernel
theorem dX7_childOf_1 : decode M_X7_childOf.2.1 1 = .ok (.iload_n 1, 1) := by decide +kernel
theorem dX7_childOf_2 : decode M_X7_childOf.2.1 2 = .ok (.invokevirtual 65, 3) := by decide +kernel
theorem dX7_childOf_5 : decode M_X7_childOf.2.1 5 = .ok (.ifCond .eq 12, 3) := by decide +kernel
theorem dX7_childOf_8 : decode M_X7_childOf.2.1 8 = .ok (.aload_n 0, 1) := by decide +kernel
theorem dX7_childOf_9 : decode M_X7_childOf.2.1 9 = .ok (.getfield 15, 3) := by decide +kernel
theorem dX7_childOf_12 : decode M_X7_childOf.2.1 12 = .ok (.iload_n 1, 1) := by decide +kernel
theorem dX7_childOf_13 : decode M_X7_childOf.2.1 13 = .ok (.iaload, 1) := by decide +kernel
theorem dX7_childOf_14 : decode M_X7_childOf.2.1 14 = .ok (.goto 4, 3) := by decide +kernel
theorem dX7_childOf_17 : decode M_X7_childOf.2.1 17 = .ok (.iconst (-1), 1) := by decide +kernel
theorem dX7_childOf_18 : decode M_X7_childOf.2.1 18 = .ok (.istore 4, 2) := by decide +kernel
theorem dX7_childOf_20 : decode M_X7_childOf.2.1 20 = .ok (.iconst 0, 1) := by decide +kernel
theorem dX7_childOf_21 : decode M_X7_childOf.2.1 21 = .ok (.istore 5, 2) := by decide +kernel
theorem dX7_childOf_23 : decode M_X7_childOf.2.1 23 = .ok (.iload 5, 2) := by decide +kernel
theorem dX7_childOf_25 : decode M_X7_childOf.2.1 25 = .ok (.sipush 250, 3) := by decide +kernel
theorem dX7_childOf_28 : decode M_X7_childOf.2.1 28 = .ok (.if_icmp .ge 52, 3) := by decide +kernel
theorem dX7_childOf_31 : decode M_X7_childOf.2.1 31 = .ok (.aload_n 0, 1) := by decide +kernel
theorem dX7_childOf_32 : decode M_X7_childOf.2.1 32 = .ok (.iload 4, 2) := by decide +kernel
theorem dX7_childOf_34 : decode M_X7_childOf.2.1 34 = .ok (.invokevirtual 65, 3) := by decide +kernel
theorem dX7_childOf_37 : decode M_X7_childOf.2.1 37 = .ok (.ifCond .eq 43, 3) := by decide +kernel
theorem dX7_childOf_40 : decode M_X7_childOf.2.1 40 = .ok (.aload_n 0, 1) := by decide +kernel
theorem dX7_childOf_41 : decode M_X7_childOf.2.1 41 = .ok (.getfield 33, 3) := by decide +kernel
theorem dX7_childOf_44 : decode M_X7_childOf.2.1 44 = .ok (.iload 4, 2) := by decide +kernel
theorem dX7_childOf_46 : decode M_X7_childOf.2.1 46 = .ok (.iaload, 1) := by decide +kernel
theorem dX7_childOf_47 : decode M_X7_childOf.2.1 47 = .ok (.iload_n 2, 1) := by decide +kernel
theorem dX7_childOf_48 : decode M_X7_childOf.2.1 48 = .ok (.if_icmp .ne 17, 3) := by decide +kernel
theorem dX7_childOf_51 : decode M_X7_childOf.2.1 51 = .ok (.aload_n 0, 1) := by decide +kernel
theorem dX7_childOf_52 : decode M_X7_childOf.2.1 52 = .ok (.getfield 36, 3) := by decide +kernel
theorem dX7_childOf_55 : decode M_X7_childOf.2.1 55 = .ok (.iload 4, 2) := by decide +kernel
theorem dX7_childOf_57 : decode M_X7_childOf.2.1 57 = .ok (.iaload, 1) := by decide +kernel
theorem dX7_childOf_58 : decode M_X7_childOf.2.1 58 = .ok (.iload_n 3, 1) := by decide +kernel
theorem dX7_childOf_59 : decode M_X7_childOf.2.1 59 = .ok (.if_icmp .ne 6, 3) := by decide +kernel
theorem dX7_childOf_62 : decode M_X7_childOf.2.1 62 = .ok (.iload 4, 2) := by decide +kernel
theorem dX7_childOf_64 : decode M_X7_childOf.2.1 64 = .ok (.ireturn, 1) := by decide +kernel
theorem dX7_childOf_65 : decode M_X7_childOf.2.1 65 = .ok (.aload_n 0, 1) := by decide +kernel
theorem dX7_childOf_66 : decode M_X7_childOf.2.1 66 = .ok (.getfield 21, 3) := by decide +kernel
theorem dX7_childOf_69 : decode M_X7_childOf.2.1 69 = .ok (.iload 4, 2) := by decide +kernel
theorem dX7_childOf_71 : decode M_X7_childOf.2.1 71 = .ok (.iaload, 1) := by decide +kernel
theorem dX7_childOf_72 : decode M_X7_childOf.2.1 72 = .ok (.istore 4, 2) := by decide +kernel
theorem dX7_childOf_74 : decode M_X7_childOf.2.1 74 = .ok (.iinc 5 1, 3) := by decide +kernel
theorem dX7_childOf_77 : decode M_X7_childOf.2.1 77 = .ok (.goto (-54), 3) := by decide +kernel
theorem dX7_childOf_80 : decode M_X7_childOf.2.1 80 = .ok (.iconst (-1), 1) := by decide +kernel
theorem dX7_childOf_81 : decode M_X7_childOf.2.1 81 = .ok (.ireturn, 1) := by decide +kernel
def L_X7_childOf_23 (X : ZX) (d n : Nat) (P : Option Value → ZSto → Prop) (o0 : Nat) (x2 : Int) (x3 : Int) (x4 : Int) (x5 : Int) (σ : ZSto) : Prop := R32 x2 → R32 x3 → R32 x4 → R32 x5 → ZOk n σ → Zn X M_X7_childOf d n P 23 [some (.ref (zB X + o0)), none, some (iV x2), some (iV x3), some (iV x4), some (iV x5)] [] σ
theorem w_X7_childOf {X : ZX} {d n : Nat} {P : Int → ZSto → Prop} {o0 : Nat} {x1 : Int} {x2 : Int} {x3 : Int} {σ : ZSto} (hn : 73 ≤ n) (hc0 : zIsT o0) (hx1 : R32 x1) (hx2 : R32 x2) (hx3 : R32 x3)
    (h : ZkZ X M_X7_has d n [.ref (zB X + o0), iV x1] σ (fun v1 σ2 => (v1 = 0 → L_X7_childOf_23 X d n (zpI P) o0 x2 x3 ((-1)) 0 σ2) ∧ (¬ (v1 = 0) → (0 ≤ x1 ∧ x1 < 250) ∧ (∀ y12 : Int, y12 = gI σ2 (o0 + 2) x1.toNat → L_X7_childOf_23 X d n (zpI P) o0 x2 x3 y12 0 σ2)))) :
    ZkI X M_X7_childOf (d + 1) n [.ref (zB X + o0), iV x1, iV x2, iV x3] σ P := by
  refine zk_of (ls := [some (.ref (zB X + o0)), some (iV x1), some (iV x2), some (iV x3), none, none]) pl_RX7 (Nat.le_of_ble_eq_true rfl) rfl (fun k0 => ?_)
  unfold Zn
  refine r_aload_n dX7_childOf_0 rfl ?_
  refine r_iload_n dX7_childOf_1 rfl ?_
  refine n_callV (N := M_X7_has) (As := [iV x1]) (st := []) dX7_childOf_2 mk_X7_has km_RX7_65 kd_X7_has rfl (zT_lt hc0 hn) (zT_s hc0) (q := (RX7, TX7, 17)) rfl rfl (zFits_rm d n n n (Nat.le_refl n)) (Nat.le_of_ble_eq_true rfl) rfl k0 h ?_
  rintro _ σ2 k3 ⟨v1, rfl, h4, h5⟩
  change Zm _ _ _ _ _ _ 5 _ [iV v1] _
  refine r_if_eq (t := 17) dX7_childOf_5 rfl (r32_z h4)  (fun c6 => ?_) (fun c7 => ?_)
  · have h8 := h5.1 c6
    refine r_iconst dX7_childOf_17 ?_
    refine r_istore dX7_childOf_18 rfl rfl ?_
    refine r_iconst dX7_childOf_20 ?_
    refine r_istore dX7_childOf_21 rfl rfl ?_
    exact r_mask [true, false, true, true, true, true] rfl (h8 hx2 hx3 (r32c rfl) (r32c rfl) k3)
  · have h9 := h5.2 c7
    refine r_aload_n dX7_childOf_8 rfl ?_
    refine r_getP (a := (o0 + 2)) dX7_childOf_9 kf_RX7_15 (zT_lt hc0 hn) (zT_s hc0) rfl (k3.1 _ _ _ (zT_lt hc0 hn) (zT_p1 hc0)) ?_
    refine r_iload_n dX7_childOf_12 rfl ?_
    obtain ⟨h10, h11⟩ := h9
    refine r_ialoadE dX7_childOf_13 (zT_l1 hc0 hn) (zT_s1 hc0) h10.1 h10.2 rfl ?_
    refine r_goto (t := 18) dX7_childOf_14 rfl ?_
    refine r_name (fun y12 e13 => ?_)
    have h14 := h11 y12 e13
    refine r_istore dX7_childOf_18 rfl rfl ?_
    refine r_iconst dX7_childOf_20 ?_
    refine r_istore dX7_childOf_21 rfl rfl ?_
    exact r_mask [true, false, true, true, true, true] rfl (h14 hx2 hx3 (by rw [e13]; exact (k3.2.1 _ _)) (r32c rfl) k3)
theorem b_X7_childOf_23 {X : ZX} {d n : Nat} {P : Int → ZSto → Prop} {o0 : Nat} {x2 : Int} {x3 : Int} {x4 : Int} {x5 : Int} {σ : ZSto} (hn : 73 ≤ n) (hc0 : zIsT o0)
    (h : (250 ≤ x5 → P ((-1)) σ) ∧ (¬ (250 ≤ x5) → ZkZ X M_X7_has d n [.ref (zB X + o0), iV x4] σ (fun v5 σ6 => (v5 = 0 → P ((-1)) σ6) ∧ (¬ (v5 = 0) → (0 ≤ x4 ∧ x4 < 250) ∧ (¬ gI σ6 (o0 + 8) x4.toNat = x2 → (∀ y19 : Int, y19 = gI σ6 (o0 + 4) x4.toNat → R32 (x5 + 1) ∧ L_X7_childOf_23 X d n (zpI P) o0 x2 x3 y19 (x5 + 1) σ6)) ∧ (gI σ6 (o0 + 8) x4.toNat = x2 → (¬ gI σ6 (o0 + 9) x4.toNat = x3 → (∀ y28 : Int, y28 = gI σ6 (o0 + 4) x4.toNat → R32 (x5 + 1) ∧ L_X7_childOf_23 X d n (zpI P) o0 x2 x3 y28 (x5 + 1) σ6)) ∧ (gI σ6 (o0 + 9) x4.toNat = x3 → P x4 σ6)))))) :
    L_X7_childOf_23 X d n (zpI P) o0 x2 x3 x4 x5 σ := by
  intro hx2 hx3 hx4 hx5 k0
  unfold Zn
  refine r_iload dX7_childOf_23 rfl ?_
  refine r_sipush dX7_childOf_25 rfl ?_
  refine r_icmp_ge (t := 80) dX7_childOf_28 rfl hx5 (r32c rfl) (fun c1 => ?_) (fun c2 => ?_)
  · have h3 := h.1 c1
    refine r_iconst dX7_childOf_80 ?_
    exact r_ireturn dX7_childOf_81 rfl ⟨k0, _, rfl, (r32c rfl), h3⟩
  · have h4 := h.2 c2
    refine r_aload_n dX7_childOf_31 rfl ?_
    refine r_iload dX7_childOf_32 rfl ?_
    refine n_callV (N := M_X7_has) (As := [iV x4]) (st := []) dX7_childOf_34 mk_X7_has km_RX7_65 kd_X7_has rfl (zT_lt hc0 hn) (zT_s hc0) (q := (RX7, TX7, 17)) rfl rfl (zFits_rm d n n n (Nat.le_refl n)) (Nat.le_of_ble_eq_true rfl) rfl k0 h4 ?_
    rintro _ σ6 k7 ⟨v5, rfl, h8, h9⟩
    change Zm _ _ _ _ _ _ 37 _ [iV v5] _
    refine r_if_eq (t := 80) dX7_childOf_37 rfl (r32_z h8)  (fun c10 => ?_) (fun c11 => ?_)
    · have h12 := h9.1 c10
      refine r_iconst dX7_childOf_80 ?_
      exact r_ireturn dX7_childOf_81 rfl ⟨k7, _, rfl, (r32c rfl), h12⟩
    · have h13 := h9.2 c11
      refine r_aload_n dX7_childOf_40 rfl ?_
      refine r_getP (a := (o0 + 8)) dX7_childOf_41 kf_RX7_33 (zT_lt hc0 hn) (zT_s hc0) rfl (k7.1 _ _ _ (zT_lt hc0 hn) (zT_p7 hc0)) ?_
      refine r_iload dX7_childOf_44 rfl ?_
      obtain ⟨h14, h15⟩ := h13
      refine r_ialoadE dX7_childOf_46 (zT_l7 hc0 hn) (zT_s7 hc0) h14.1 h14.2 rfl ?_
      refine r_iload_n dX7_childOf_47 rfl ?_
      refine r_icmp_ne (t := 65) dX7_childOf_48 rfl (k7.2.1 _ _) hx2 (fun c16 => ?_) (fun c17 => ?_)
      · have h18 := h15.1 c16
        refine r_aload_n dX7_childOf_65 rfl ?_
        refine r_getP (a := (o0 + 4)) dX7_childOf_66 kf_RX7_21 (zT_lt hc0 hn) (zT_s hc0) rfl (k7.1 _ _ _ (zT_lt hc0 hn) (zT_p3 hc0)) ?_
        refine r_iload dX7_childOf_69 rfl ?_
        refine r_ialoadE dX7_childOf_71 (zT_l3 hc0 hn) (zT_s3 hc0) h14.1 h14.2 rfl ?_
        refine r_name (fun y19 e20 => ?_)
        have h21 := h18 y19 e20
        refine r_istore dX7_childOf_72 rfl rfl ?_
        refine r_iinc dX7_childOf_74 rfl rfl rfl ?_
        refine r_goto (t := 23) dX7_childOf_77 rfl ?_
        obtain ⟨h22, h23⟩ := h21
        exact r_mask [true, false, true, true, true, true] rfl (h23 hx2 hx3 (by rw [e20]; exact (k7.2.1 _ _)) h22 k7)
      · have h24 := h15.2 c17
        refine r_aload_n dX7_childOf_51 rfl ?_
        refine r_getP (a := (o0 + 9)) dX7_childOf_52 kf_RX7_36 (zT_lt hc0 hn) (zT_s hc0) rfl (k7.1 _ _ _ (zT_lt hc0 hn) (zT_p8 hc0)) ?_
        refine r_iload dX7_childOf_55 rfl ?_
        refine r_ialoadE dX7_childOf_57 (zT_l8 hc0 hn) (zT_s8 hc0) h14.1 h14.2 rfl ?_
        refine r_iload_n dX7_childOf_58 rfl ?_
        refine r_icmp_ne (t := 65) dX7_childOf_59 rfl (k7.2.1 _ _) hx3 (fun c25 => ?_) (fun c26 => ?_)
        · have h27 := h24.1 c25
          refine r_aload_n dX7_childOf_65 rfl ?_
          refine r_getP (a := (o0 + 4)) dX7_childOf_66 kf_RX7_21 (zT_lt hc0 hn) (zT_s hc0) rfl (k7.1 _ _ _ (zT_lt hc0 hn) (zT_p3 hc0)) ?_
          refine r_iload dX7_childOf_69 rfl ?_
          refine r_ialoadE dX7_childOf_71 (zT_l3 hc0 hn) (zT_s3 hc0) h14.1 h14.2 rfl ?_
          refine r_name (fun y28 e29 => ?_)
          have h30 := h27 y28 e29
          refine r_istore dX7_childOf_72 rfl rfl ?_
          refine r_iinc dX7_childOf_74 rfl rfl rfl ?_
          refine r_goto (t := 23) dX7_childOf_77 rfl ?_
          obtain ⟨h31, h32⟩ := h30
          exact r_mask [true, false, true, true, true, true] rfl (h32 hx2 hx3 (by rw [e29]; exact (k7.2.1 _ _)) h31 k7)
        · have h33 := h24.2 c26
          refine r_iload dX7_childOf_62 rfl ?_
          exact r_ireturn dX7_childOf_64 rfl ⟨k7, _, rfl, hx4, h33⟩
/-! StoneRoom$Tree.isOver -/
theorem dX7_isOver_0 : decode M_X7_isOver.2.1 0 = .ok (.aload_n 0, 1) := by decide +kernel
theorem dX7_isOver_1 : decode M_X7_isOver.2.1 1 = .ok (.iload_n 1, 1) := by decide +kernel
theorem dX7_isOver_2 : decode M_X7_isOver.2.1 2 = .ok (.invokevirtual 92, 3) := by decide +kernel
theorem dX7_isOver_5 : decode M_X7_isOver.2.1 5 = .ok (.iconst 2, 1) := by decide +kernel
theorem dX7_isOver_6 : decode M_X7_isOver.2.1 6 = .ok (.if_icmp .ne 20, 3) := by decide +kernel
theorem dX7_isOver_9 : decode M_X7_isOver.2.1 9 = .ok (.aload_n 0, 1) := by decide +kernel
theorem dX7_isOver_10 : decode M_X7_isOver.2.1 10 = .ok (.aload_n 0, 1) := by decide +kernel
theorem dX7_isOver_11 : decode M_X7_isOver.2.1 11 = .ok (.iload_n 1, 1) := by decide +kernel
theorem dX7_isOver_12 : decode M_X7_isOver.2.1 12 = .ok (.invokevirtual 95, 3) := by decide +kernel
theorem dX7_isOver_15 : decode M_X7_isOver.2.1 15 = .ok (.invokevirtual 92, 3) := by decide +kernel
theorem dX7_isOver_18 : decode M_X7_isOver.2.1 18 = .ok (.iconst 2, 1) := by decide +kernel
theorem dX7_isOver_19 : decode M_X7_isOver.2.1 19 = .ok (.if_icmp .ne 7, 3) := by decide +kernel
theorem dX7_isOver_22 : decode M_X7_isOver.2.1 22 = .ok (.iconst 1, 1) := by decide +kernel
theorem dX7_isOver_23 : decode M_X7_isOver.2.1 23 = .ok (.goto 4, 3) := by decide +kernel
theorem dX7_isOver_26 : decode M_X7_isOver.2.1 26 = .ok (.iconst 0, 1) := by decide +kernel
theorem dX7_isOver_27 : decode M_X7_isOver.2.1 27 = .ok (.ireturn, 1) := by decide +kernel
theorem w_X7_isOver {X : ZX} {d n : Nat} {P : Int → ZSto → Prop} {o0 : Nat} {x1 : Int} {σ : ZSto} (hn : 73 ≤ n) (hc0 : zIsT o0) (hx1 : R32 x1)
    (h : ZkI X M_X7_kindOf d n [.ref (zB X + o0), iV x1] σ (fun v1 σ2 => (¬ v1 = 2 → P 0 σ2) ∧ (v1 = 2 → ZkI X M_X7_parentOf d n [.ref (zB X + o0), iV x1] σ2 (fun v10 σ11 => ZkI X M_X7_kindOf d n [.ref (zB X + o0), iV v10] σ11 (fun v15 σ16 => (¬ v15 = 2 → P 0 σ16) ∧ (v15 = 2 → P 1 σ16)))))) :
    ZkZ X M_X7_isOver (d + 1) n [.ref (zB X + o0), iV x1] σ P := by
  refine zk_of (ls := [some (.ref (zB X + o0)), some (iV x1)]) pl_RX7 (Nat.le_of_ble_eq_true rfl) rfl (fun k0 => ?_)
  unfold Zn
  refine r_aload_n dX7_isOver_0 rfl ?_
  refine r_iload_n dX7_isOver_1 rfl ?_
  refine n_callV (N := M_X7_kindOf) (As := [iV x1]) (st := []) dX7_isOver_2 mk_X7_kindOf km_RX7_92 kd_X7_kindOf rfl (zT_lt hc0 hn) (zT_s hc0) (q := (RX7, TX7, 17)) rfl rfl (zFits_rm d n n n (Nat.le_refl n)) (Nat.le_of_ble_eq_true rfl) rfl k0 h ?_
  rintro _ σ2 k3 ⟨v1, rfl, h4, h5⟩
  change Zm _ _ _ _ _ _ 5 _ [iV v1] _
  refine r_iconst dX7_isOver_5 ?_
  refine r_icmp_ne (t := 26) dX7_isOver_6 rfl h4 (r32c rfl) (fun c6 => ?_) (fun c7 => ?_)
  · have h8 := h5.1 c6
    refine r_iconst dX7_isOver_26 ?_
    exact r_zreturn dX7_isOver_27 rfl (Or.inl rfl) ⟨k3, _, rfl, (Or.inl rfl), h8⟩
  · have h9 := h5.2 c7
    refine r_aload_n dX7_isOver_9 rfl ?_
    refine r_aload_n dX7_isOver_10 rfl ?_
    refine r_iload_n dX7_isOver_11 rfl ?_
    refine n_callV (N := M_X7_parentOf) (As := [iV x1]) (st := [.ref (zB X + o0)]) dX7_isOver_12 mk_X7_parentOf km_RX7_95 kd_X7_parentOf rfl (zT_lt hc0 hn) (zT_s hc0) (q := (RX7, TX7, 17)) rfl rfl (zFits_rm d n n n (Nat.le_refl n)) (Nat.le_of_ble_eq_true rfl) rfl k3 h9 ?_
    rintro _ σ11 k12 ⟨v10, rfl, h13, h14⟩
    change Zm _ _ _ _ _ _ 15 _ [iV v10, .ref (zB X + o0)] _
    refine n_callV (N := M_X7_kindOf) (As := [iV v10]) (st := []) dX7_isOver_15 mk_X7_kindOf km_RX7_92 kd_X7_kindOf rfl (zT_lt hc0 hn) (zT_s hc0) (q := (RX7, TX7, 17)) rfl rfl (zFits_rm d n n n (Nat.le_refl n)) (Nat.le_of_ble_eq_true rfl) rfl k12 h14 ?_
    rintro _ σ16 k17 ⟨v15, rfl, h18, h19⟩
    change Zm _ _ _ _ _ _ 18 _ [iV v15] _
    refine r_iconst dX7_isOver_18 ?_
    refine r_icmp_ne (t := 26) dX7_isOver_19 rfl h18 (r32c rfl) (fun c20 => ?_) (fun c21 => ?_)
    · have h22 := h19.1 c20
      refine r_iconst dX7_isOver_26 ?_
      exact r_zreturn dX7_isOver_27 rfl (Or.inl rfl) ⟨k17, _, rfl, (Or.inl rfl), h22⟩
    · have h23 := h19.2 c21
      refine r_iconst dX7_isOver_22 ?_
      refine r_goto (t := 27) dX7_isOver_23 rfl ?_
      exact r_zreturn dX7_isOver_27 rfl (Or.inr rfl) ⟨k17, _, rfl, (Or.inr rfl), h23⟩
/-! StoneRoom$Tree.tryPlay -/
theorem dX7_tryPlay_0 : decode M_X7_tryPlay.2.1 0 = .ok (.aload_n 1, 1) := by decide +kernel
theorem dX7_tryPlay_1 : decode M_X7_tryPlay.2.1 1 = .ok (.iload_n 3, 1) := by decide +kernel
theorem dX7_tryPlay_2 : decode M_X7_tryPlay.2.1 2 = .ok (.invokevirtual 98, 3) := by decide +kernel
theorem dX7_tryPlay_5 : decode M_X7_tryPlay.2.1 5 = .ok (.ifCond .eq 5, 3) := by decide +kernel
theorem dX7_tryPlay_8 : decode M_X7_tryPlay.2.1 8 = .ok (.iconst 2, 1) := by decide +kernel
theorem dX7_tryPlay_9 : decode M_X7_tryPlay.2.1 9 = .ok (.ireturn, 1) := by decide +kernel
theorem dX7_tryPlay_10 : decode M_X7_tryPlay.2.1 10 = .ok (.aload_n 1, 1) := by decide +kernel
theorem dX7_tryPlay_11 : decode M_X7_tryPlay.2.1 11 = .ok (.iload_n 3, 1) := by decide +kernel
theorem dX7_tryPlay_12 : decode M_X7_tryPlay.2.1 12 = .ok (.iload 4, 2) := by decide +kernel
theorem dX7_tryPlay_14 : decode M_X7_tryPlay.2.1 14 = .ok (.invokevirtual 101, 3) := by decide +kernel
theorem dX7_tryPlay_17 : decode M_X7_tryPlay.2.1 17 = .ok (.ifCond .ne 5, 3) := by decide +kernel
theorem dX7_tryPlay_20 : decode M_X7_tryPlay.2.1 20 = .ok (.iconst 3, 1) := by decide +kernel
theorem dX7_tryPlay_21 : decode M_X7_tryPlay.2.1 21 = .ok (.ireturn, 1) := by decide +kernel
theorem dX7_tryPlay_22 : decode M_X7_tryPlay.2.1 22 = .ok (.aload_n 1, 1) := by decide +kernel
theorem dX7_tryPlay_23 : decode M_X7_tryPlay.2.1 23 = .ok (.invokevirtual 105, 3) := by decide +kernel
theorem dX7_tryPlay_26 : decode M_X7_tryPlay.2.1 26 = .ok (.aload_n 0, 1) := by decide +kernel
theorem dX7_tryPlay_27 : decode M_X7_tryPlay.2.1 27 = .ok (.aload_n 1, 1) := by decide +kernel
theorem dX7_tryPlay_28 : decode M_X7_tryPlay.2.1 28 = .ok (.iload_n 2, 1) := by decide +kernel
theorem dX7_tryPlay_29 : decode M_X7_tryPlay.2.1 29 = .ok (.iload 4, 2) := by decide +kernel
theorem dX7_tryPlay_31 : decode M_X7_tryPlay.2.1 31 = .ok (.invokestatic 79, 3) := by decide +kernel
theorem dX7_tryPlay_34 : decode M_X7_tryPlay.2.1 34 = .ok (.iload 5, 2) := by decide +kernel
theorem dX7_tryPlay_36 : decode M_X7_tryPlay.2.1 36 = .ok (.invokevirtual 108, 3) := by decide +kernel
theorem dX7_tryPlay_39 : decode M_X7_tryPlay.2.1 39 = .ok (.ifCond .eq 7, 3) := by decide +kernel
theorem dX7_tryPlay_42 : decode M_X7_tryPlay.2.1 42 = .ok (.iconst 4, 1) := by decide +kernel
theorem dX7_tryPlay_43 : decode M_X7_tryPlay.2.1 43 = .ok (.goto 4, 3) := by decide +kernel
theorem dX7_tryPlay_46 : decode M_X7_tryPlay.2.1 46 = .ok (.iconst 0, 1) := by decide +kernel
theorem dX7_tryPlay_47 : decode M_X7_tryPlay.2.1 47 = .ok (.ireturn, 1) := by decide +kernel
theorem w_X7_tryPlay {X : ZX} {d n : Nat} {P : Int → ZSto → Prop} {o0 : Nat} {o1 : Nat} {x2 : Int} {x3 : Int} {x4 : Int} {x5 : Int} {σ : ZSto} (hn : 73 ≤ n) (hc0 : zIsT o0) (hc1 : zIsB o1) (hx2 : R32 x2) (hx3 : R32 x3) (hx4 : R32 x4) (hx5 : R32 x5)
    (h : ZkI X M_X0_contentOf d n [.ref (zB X + o1), iV x3] σ (fun v1 σ2 => (v1 = 0 → ZkZ X M_X0_put d n [.ref (zB X + o1), iV x3, iV x4] σ2 (fun v9 σ10 => (¬ v9 = 0 → ZkV X M_X0_pack d n [.ref (zB X + o1)] σ10 (fun σ18 => ZkI X M_X9_otherColour d n [iV x4] σ18 (fun v22 σ23 => ZkZ X M_X7_isBarred d n [.ref (zB X + o0), .ref (zB X + o1), iV x2, iV v22, iV x5] σ23 (fun v27 σ28 => (v27 = 0 → P 0 σ28) ∧ (¬ (v27 = 0) → P 4 σ28))))) ∧ (v9 = 0 → P 3 σ10))) ∧ (¬ (v1 = 0) → P 2 σ2))) :
    ZkI X M_X7_tryPlay (d + 1) n [.ref (zB X + o0), .ref (zB X + o1), iV x2, iV x3, iV x4, iV x5] σ P := by
  refine zk_of (ls := [some (.ref (zB X + o0)), some (.ref (zB X + o1)), some (iV x2), some (iV x3), some (iV x4), some (iV x5)]) pl_RX7 (Nat.le_of_ble_eq_true rfl) rfl (fun k0 => ?_)
  unfold Zn
  refine r_aload_n dX7_tryPlay_0 rfl ?_
  refine r_iload_n dX7_tryPlay_1 rfl ?_
  refine n_callV (N := M_X0_contentOf) (As := [iV x3]) (st := []) dX7_tryPlay_2 mk_X0_contentOf km_RX7_98 kd_X0_contentOf rfl (zB_lt hc1 hn) (zB_s hc1) (q := (RX0, TX0, 13)) rfl rfl (zFits_rm d n n n (Nat.le_refl n)) (Nat.le_of_ble_eq_true rfl) rfl k0 h ?_
  rintro _ σ2 k3 ⟨v1, rfl, h4, h5⟩
  change Zm _ _ _ _ _ _ 5 _ [iV v1] _
  refine r_if_eq (t := 10) dX7_tryPlay_5 rfl h4  (fun c6 => ?_) (fun c7 => ?_)
  · have h8 := h5.1 c6
    refine r_aload_n dX7_tryPlay_10 rfl ?_
    refine r_iload_n dX7_tryPlay_11 rfl ?_
    refine r_iload dX7_tryPlay_12 rfl ?_
    refine n_callV (N := M_X0_put) (As := [iV x3, iV x4]) (st := []) dX7_tryPlay_14 mk_X0_put km_RX7_101 kd_X0_put rfl (zB_lt hc1 hn) (zB_s hc1) (q := (RX0, TX0, 13)) rfl rfl (zFits_rm d n n n (Nat.le_refl n)) (Nat.le_of_ble_eq_true rfl) rfl k3 h8 ?_
    rintro _ σ10 k11 ⟨v9, rfl, h12, h13⟩
    change Zm _ _ _ _ _ _ 17 _ [iV v9] _
    refine r_if_ne (t := 22) dX7_tryPlay_17 rfl (r32_z h12)  (fun c14 => ?_) (fun c15 => ?_)
    · have h16 := h13.1 c14
      refine r_aload_n dX7_tryPlay_22 rfl ?_
      refine n_callV (N := M_X0_pack) (As := []) (st := []) dX7_tryPlay_23 mk_X0_pack km_RX7_105 kd_X0_pack rfl (zB_lt hc1 hn) (zB_s hc1) (q := (RX0, TX0, 13)) rfl rfl (zFits_rm d n n n (Nat.le_refl n)) (Nat.le_of_ble_eq_true rfl) rfl k11 h16 ?_
      rintro _ σ18 k19 ⟨rfl, h21⟩
      change Zm _ _ _ _ _ _ 26 _ [] _
      refine r_aload_n dX7_tryPlay_26 rfl ?_
      refine r_aload_n dX7_tryPlay_27 rfl ?_
      refine r_iload_n dX7_tryPlay_28 rfl ?_
      refine r_iload dX7_tryPlay_29 rfl ?_
      refine n_callS (N := M_X9_otherColour) (As := [iV x4]) (st := [iV x2, .ref (zB X + o1), .ref (zB X + o0)]) dX7_tryPlay_31 mk_X9_otherColour km_RX7_79 kd_X9_otherColour rfl (zFits_rm d n n n (Nat.le_refl n)) (Nat.le_of_ble_eq_true rfl) rfl k19 h21 ?_
      rintro _ σ23 k24 ⟨v22, rfl, h25, h26⟩
      change Zm _ _ _ _ _ _ 34 _ [iV v22, iV x2, .ref (zB X + o1), .ref (zB X + o0)] _
      refine r_iload dX7_tryPlay_34 rfl ?_
      refine n_callV (N := M_X7_isBarred) (As := [.ref (zB X + o1), iV x2, iV v22, iV x5]) (st := []) dX7_tryPlay_36 mk_X7_isBarred km_RX7_108 kd_X7_isBarred rfl (zT_lt hc0 hn) (zT_s hc0) (q := (RX7, TX7, 17)) rfl rfl (zFits_rm d n n n (Nat.le_refl n)) (Nat.le_of_ble_eq_true rfl) rfl k24 h26 ?_
      rintro _ σ28 k29 ⟨v27, rfl, h30, h31⟩
      change Zm _ _ _ _ _ _ 39 _ [iV v27] _
      refine r_if_eq (t := 46) dX7_tryPlay_39 rfl (r32_z h30)  (fun c32 => ?_) (fun c33 => ?_)
      · have h34 := h31.1 c32
        refine r_iconst dX7_tryPlay_46 ?_
        exact r_ireturn dX7_tryPlay_47 rfl ⟨k29, _, rfl, (r32c rfl), h34⟩
      · have h35 := h31.2 c33
        refine r_iconst dX7_tryPlay_42 ?_
        refine r_goto (t := 47) dX7_tryPlay_43 rfl ?_
        exact r_ireturn dX7_tryPlay_47 rfl ⟨k29, _, rfl, (r32c rfl), h35⟩
    · have h36 := h13.2 c15
      refine r_iconst dX7_tryPlay_20 ?_
      exact r_ireturn dX7_tryPlay_21 rfl ⟨k11, _, rfl, (r32c rfl), h36⟩
  · have h37 := h5.2 c7
    refine r_iconst dX7_tryPlay_8 ?_
    exact r_ireturn dX7_tryPlay_9 rfl ⟨k3, _, rfl, (r32c rfl), h37⟩
/-! StoneRoom$Tree.isBarred -/
theorem dX7_isBarred_0 : decode M_X7_isBarred.2.1 0 = .ok (.iload 4, 2) := by decide +kernel
theorem dX7_isBarred_2 : decode M_X7_isBarred.2.1 2 = .ok (.ifCond .ne 46, 3) := by decide +kernel
theorem dX7_isBarred_5 : decode M_X7_isBarred.2.1 5 = .ok (.aload_n 0, 1) := by decide +kernel
theorem dX7_isBarred_6 : decode M_X7_isBarred.2.1 6 = .ok (.iload_n 2, 1) := by decide +kernel
theorem dX7_isBarred_7 : decode M_X7_isBarred.2.1 7 = .ok (.invokevirtual 65, 3) := by decide +kernel
theorem dX7_isBarred_10 : decode M_X7_isBarred.2.1 10 = .ok (.ifCond .eq 36, 3) := by decide +kernel
theorem dX7_isBarred_13 : decode M_X7_isBarred.2.1 13 = .ok (.aload_n 0, 1) := by decide +kernel
theorem dX7_isBarred_14 : decode M_X7_isBarred.2.1 14 = .ok (.getfield 30, 3) := by decide +kernel
theorem dX7_isBarred_17 : decode M_X7_isBarred.2.1 17 = .ok (.iload_n 2, 1) := by decide +kernel
theorem dX7_isBarred_18 : decode M_X7_isBarred.2.1 18 = .ok (.iaload, 1) := by decide +kernel
theorem dX7_isBarred_19 : decode M_X7_isBarred.2.1 19 = .ok (.iconst 1, 1) := by decide +kernel
theorem dX7_isBarred_20 : decode M_X7_isBarred.2.1 20 = .ok (.if_icmp .ne 26, 3) := by decide +kernel
theorem dX7_isBarred_23 : decode M_X7_isBarred.2.1 23 = .ok (.aload_n 1, 1) := by decide +kernel
theorem dX7_isBarred_24 : decode M_X7_isBarred.2.1 24 = .ok (.aload_n 0, 1) := by decide +kernel
theorem dX7_isBarred_25 : decode M_X7_isBarred.2.1 25 = .ok (.getfield 45, 3) := by decide +kernel
theorem dX7_isBarred_28 : decode M_X7_isBarred.2.1 28 = .ok (.aload_n 0, 1) := by decide +kernel
theorem dX7_isBarred_29 : decode M_X7_isBarred.2.1 29 = .ok (.getfield 9, 3) := by decide +kernel
theorem dX7_isBarred_32 : decode M_X7_isBarred.2.1 32 = .ok (.iload_n 2, 1) := by decide +kernel
theorem dX7_isBarred_33 : decode M_X7_isBarred.2.1 33 = .ok (.iaload, 1) := by decide +kernel
theorem dX7_isBarred_34 : decode M_X7_isBarred.2.1 34 = .ok (.iconst 3, 1) := by decide +kernel
theorem dX7_isBarred_35 : decode M_X7_isBarred.2.1 35 = .ok (.imul, 1) := by decide +kernel
theorem dX7_isBarred_36 : decode M_X7_isBarred.2.1 36 = .ok (.invokevirtual 112, 3) := by decide +kernel
theorem dX7_isBarred_39 : decode M_X7_isBarred.2.1 39 = .ok (.ifCond .eq 7, 3) := by decide +kernel
theorem dX7_isBarred_42 : decode M_X7_isBarred.2.1 42 = .ok (.iconst 1, 1) := by decide +kernel
theorem dX7_isBarred_43 : decode M_X7_isBarred.2.1 43 = .ok (.goto 4, 3) := by decide +kernel
theorem dX7_isBarred_46 : decode M_X7_isBarred.2.1 46 = .ok (.iconst 0, 1) := by decide +kernel
theorem dX7_isBarred_47 : decode M_X7_isBarred.2.1 47 = .ok (.ireturn, 1) := by decide +kernel
theorem dX7_isBarred_48 : decode M_X7_isBarred.2.1 48 = .ok (.iload_n 2, 1) := by decide +kernel
theorem dX7_isBarred_49 : decode M_X7_isBarred.2.1 49 = .ok (.istore 5, 2) := by decide +kernel
theorem dX7_isBarred_51 : decode M_X7_isBarred.2.1 51 = .ok (.iconst 0, 1) := by decide +kernel
theorem dX7_isBarred_52 : decode M_X7_isBarred.2.1 52 = .ok (.istore 6, 2) := by decide +kernel
theorem dX7_isBarred_54 : decode M_X7_isBarred.2.1 54 = .ok (.iload 6, 2) := by decide +kernel
theorem dX7_isBarred_56 : decode M_X7_isBarred.2.1 56 = .ok (.sipush 250, 3) := by decide +kernel
theorem dX7_isBarred_59 : decode M_X7_isBarred.2.1 59 = .ok (.if_icmp .ge 61, 3) := by decide +kernel
theorem dX7_isBarred_62 : decode M_X7_isBarred.2.1 62 = .ok (.aload_n 0, 1) := by decide +kernel
theorem dX7_isBarred_63 : decode M_X7_isBarred.2.1 63 = .ok (.iload 5, 2) := by decide +kernel
theorem dX7_isBarred_65 : decode M_X7_isBarred.2.1 65 = .ok (.invokevirtual 65, 3) := by decide +kernel
theorem dX7_isBarred_68 : decode M_X7_isBarred.2.1 68 = .ok (.ifCond .eq 52, 3) := by decide +kernel
theorem dX7_isBarred_71 : decode M_X7_isBarred.2.1 71 = .ok (.aload_n 1, 1) := by decide +kernel
theorem dX7_isBarred_72 : decode M_X7_isBarred.2.1 72 = .ok (.aload_n 0, 1) := by decide +kernel
theorem dX7_isBarred_73 : decode M_X7_isBarred.2.1 73 = .ok (.getfield 45, 3) := by decide +kernel
theorem dX7_isBarred_76 : decode M_X7_isBarred.2.1 76 = .ok (.iload 5, 2) := by decide +kernel
theorem dX7_isBarred_78 : decode M_X7_isBarred.2.1 78 = .ok (.iconst 3, 1) := by decide +kernel
theorem dX7_isBarred_79 : decode M_X7_isBarred.2.1 79 = .ok (.imul, 1) := by decide +kernel
theorem dX7_isBarred_80 : decode M_X7_isBarred.2.1 80 = .ok (.invokevirtual 112, 3) := by decide +kernel
theorem dX7_isBarred_83 : decode M_X7_isBarred.2.1 83 = .ok (.ifCond .eq 22, 3) := by decide +kernel
theorem dX7_isBarred_86 : decode M_X7_isBarred.2.1 86 = .ok (.iload 4, 2) := by decide +kernel
theorem dX7_isBarred_88 : decode M_X7_isBarred.2.1 88 = .ok (.iconst 1, 1) := by decide +kernel
theorem dX7_isBarred_89 : decode M_X7_isBarred.2.1 89 = .ok (.if_icmp .eq 14, 3) := by decide +kernel
theorem dX7_isBarred_92 : decode M_X7_isBarred.2.1 92 = .ok (.aload_n 0, 1) := by decide +kernel
theorem dX7_isBarred_93 : decode M_X7_isBarred.2.1 93 = .ok (.getfield 39, 3) := by decide +kernel
theorem dX7_isBarred_96 : decode M_X7_isBarred.2.1 96 = .ok (.iload 5, 2) := by decide +kernel
theorem dX7_isBarred_98 : decode M_X7_isBarred.2.1 98 = .ok (.iaload, 1) := by decide +kernel
theorem dX7_isBarred_99 : decode M_X7_isBarred.2.1 99 = .ok (.iload_n 3, 1) := by decide +kernel
theorem dX7_isBarred_100 : decode M_X7_isBarred.2.1 100 = .ok (.if_icmp .ne 5, 3) := by decide +kernel
theorem dX7_isBarred_103 : decode M_X7_isBarred.2.1 103 = .ok (.iconst 1, 1) := by decide +kernel
theorem dX7_isBarred_104 : decode M_X7_isBarred.2.1 104 = .ok (.ireturn, 1) := by decide +kernel
theorem dX7_isBarred_105 : decode M_X7_isBarred.2.1 105 = .ok (.aload_n 0, 1) := by decide +kernel
theorem dX7_isBarred_106 : decode M_X7_isBarred.2.1 106 = .ok (.getfield 9, 3) := by decide +kernel
theorem dX7_isBarred_109 : decode M_X7_isBarred.2.1 109 = .ok (.iload 5, 2) := by decide +kernel
theorem dX7_isBarred_111 : decode M_X7_isBarred.2.1 111 = .ok (.iaload, 1) := by decide +kernel
theorem dX7_isBarred_112 : decode M_X7_isBarred.2.1 112 = .ok (.istore 5, 2) := by decide +kernel
theorem dX7_isBarred_114 : decode M_X7_isBarred.2.1 114 = .ok (.iinc 6 1, 3) := by decide +kernel
theorem dX7_isBarred_117 : decode M_X7_isBarred.2.1 117 = .ok (.goto (-63), 3) := by decide +kernel
theorem dX7_isBarred_120 : decode M_X7_isBarred.2.1 120 = .ok (.iconst 0, 1) := by decide +kernel
theorem dX7_isBarred_121 : decode M_X7_isBarred.2.1 121 = .ok (.ireturn, 1) := by decide +kernel
def L_X7_isBarred_54 (X : ZX) (d n : Nat) (P : Option Value → ZSto → Prop) (o0 : Nat) (o1 : Nat) (x3 : Int) (x4 : Int) (x5 : Int) (x6 : Int) (σ : ZSto) : Prop := R32 x3 → R32 x4 → R32 x5 → R32 x6 → ZOk n σ → Zn X M_X7_isBarred d n P 54 [some (.ref (zB X + o0)), some (.ref (zB X + o1)), none, some (iV x3), some (iV x4), some (iV x5), some (iV x6)] [] σ
theorem w_X7_isBarred {X : ZX} {d n : Nat} {P : Int → ZSto → Prop} {o0 : Nat} {o1 : Nat} {x2 : Int} {x3 : Int} {x4 : Int} {σ : ZSto} (hn : 73 ≤ n) (hc0 : zIsT o0) (hc1 : zIsB o1) (hx2 : R32 x2) (hx3 : R32 x3) (hx4 : R32 x4)
    (h : (¬ x4 = 0 → L_X7_isBarred_54 X d n (zpZ P) o0 o1 x3 x4 x2 0 σ) ∧ (x4 = 0 → ZkZ X M_X7_has d n [.ref (zB X + o0), iV x2] σ (fun v5 σ6 => (v5 = 0 → P 0 σ6) ∧ (¬ (v5 = 0) → (0 ≤ x2 ∧ x2 < 250) ∧ (¬ gI σ6 (o0 + 7) x2.toNat = 1 → P 0 σ6) ∧ (gI σ6 (o0 + 7) x2.toNat = 1 → ZkZ X M_X0_packedAs d n [.ref (zB X + o1), .ref (zB X + (o0 + 12)), iV ((gI σ6 (o0 + 1) x2.toNat) * 3)] σ6 (fun v20 σ21 => (v20 = 0 → P 0 σ21) ∧ (¬ (v20 = 0) → P 1 σ21))))))) :
    ZkZ X M_X7_isBarred (d + 1) n [.ref (zB X + o0), .ref (zB X + o1), iV x2, iV x3, iV x4] σ P := by
  refine zk_of (ls := [some (.ref (zB X + o0)), some (.ref (zB X + o1)), some (iV x2), some (iV x3), some (iV x4), none, none]) pl_RX7 (Nat.le_of_ble_eq_true rfl) rfl (fun k0 => ?_)
  unfold Zn
  refine r_iload dX7_isBarred_0 rfl ?_
  refine r_if_ne (t := 48) dX7_isBarred_2 rfl hx4  (fun c1 => ?_) (fun c2 => ?_)
  · have h3 := h.1 c1
    refine r_iload_n dX7_isBarred_48 rfl ?_
    refine r_istore dX7_isBarred_49 rfl rfl ?_
    refine r_iconst dX7_isBarred_51 ?_
    refine r_istore dX7_isBarred_52 rfl rfl ?_
    exact r_mask [true, true, false, true, true, true, true] rfl (h3 hx3 hx4 hx2 (r32c rfl) k0)
  · have h4 := h.2 c2
    refine r_aload_n dX7_isBarred_5 rfl ?_
    refine r_iload_n dX7_isBarred_6 rfl ?_
    refine n_callV (N := M_X7_has) (As := [iV x2]) (st := []) dX7_isBarred_7 mk_X7_has km_RX7_65 kd_X7_has rfl (zT_lt hc0 hn) (zT_s hc0) (q := (RX7, TX7, 17)) rfl rfl (zFits_rm d n n n (Nat.le_refl n)) (Nat.le_of_ble_eq_true rfl) rfl k0 h4 ?_
    rintro _ σ6 k7 ⟨v5, rfl, h8, h9⟩
    change Zm _ _ _ _ _ _ 10 _ [iV v5] _
    refine r_if_eq (t := 46) dX7_isBarred_10 rfl (r32_z h8)  (fun c10 => ?_) (fun c11 => ?_)
    · have h12 := h9.1 c10
      refine r_iconst dX7_isBarred_46 ?_
      exact r_zreturn dX7_isBarred_47 rfl (Or.inl rfl) ⟨k7, _, rfl, (Or.inl rfl), h12⟩
    · have h13 := h9.2 c11
      refine r_aload_n dX7_isBarred_13 rfl ?_
      refine r_getP (a := (o0 + 7)) dX7_isBarred_14 kf_RX7_30 (zT_lt hc0 hn) (zT_s hc0) rfl (k7.1 _ _ _ (zT_lt hc0 hn) (zT_p6 hc0)) ?_
      refine r_iload_n dX7_isBarred_17 rfl ?_
      obtain ⟨h14, h15⟩ := h13
      refine r_ialoadE dX7_isBarred_18 (zT_l6 hc0 hn) (zT_s6 hc0) h14.1 h14.2 rfl ?_
      refine r_iconst dX7_isBarred_19 ?_
      refine r_icmp_ne (t := 46) dX7_isBarred_20 rfl (k7.2.1 _ _) (r32c rfl) (fun c16 => ?_) (fun c17 => ?_)
      · have h18 := h15.1 c16
        refine r_iconst dX7_isBarred_46 ?_
        exact r_zreturn dX7_isBarred_47 rfl (Or.inl rfl) ⟨k7, _, rfl, (Or.inl rfl), h18⟩
      · have h19 := h15.2 c17
        refine r_aload_n dX7_isBarred_23 rfl ?_
        refine r_aload_n dX7_isBarred_24 rfl ?_
        refine r_getP (a := (o0 + 12)) dX7_isBarred_25 kf_RX7_45 (zT_lt hc0 hn) (zT_s hc0) rfl (k7.1 _ _ _ (zT_lt hc0 hn) (zT_p11 hc0)) ?_
        refine r_aload_n dX7_isBarred_28 rfl ?_
        refine r_getP (a := (o0 + 1)) dX7_isBarred_29 kf_RX7_9 (zT_lt hc0 hn) (zT_s hc0) rfl (k7.1 _ _ _ (zT_lt hc0 hn) (zT_p0 hc0)) ?_
        refine r_iload_n dX7_isBarred_32 rfl ?_
        refine r_ialoadE dX7_isBarred_33 (zT_l0 hc0 hn) (zT_s0 hc0) h14.1 h14.2 rfl ?_
        refine r_iconst dX7_isBarred_34 ?_
        refine r_imul dX7_isBarred_35 ?_
        refine n_callV (N := M_X0_packedAs) (As := [.ref (zB X + (o0 + 12)), iV ((gI σ6 (o0 + 1) x2.toNat) * 3)]) (st := []) dX7_isBarred_36 mk_X0_packedAs km_RX7_112 kd_X0_packedAs rfl (zB_lt hc1 hn) (zB_s hc1) (q := (RX0, TX0, 13)) rfl rfl (zFits_rm d n n n (Nat.le_refl n)) (Nat.le_of_ble_eq_true rfl) rfl k7 h19 ?_
        rintro _ σ21 k22 ⟨v20, rfl, h23, h24⟩
        change Zm _ _ _ _ _ _ 39 _ [iV v20] _
        refine r_if_eq (t := 46) dX7_isBarred_39 rfl (r32_z h23)  (fun c25 => ?_) (fun c26 => ?_)
        · have h27 := h24.1 c25
          refine r_iconst dX7_isBarred_46 ?_
          exact r_zreturn dX7_isBarred_47 rfl (Or.inl rfl) ⟨k22, _, rfl, (Or.inl rfl), h27⟩
        · have h28 := h24.2 c26
          refine r_iconst dX7_isBarred_42 ?_
          refine r_goto (t := 47) dX7_isBarred_43 rfl ?_
          exact r_zreturn dX7_isBarred_47 rfl (Or.inr rfl) ⟨k22, _, rfl, (Or.inr rfl), h28⟩
theorem b_X7_isBarred_54 {X : ZX} {d n : Nat} {P : Int → ZSto → Prop} {o0 : Nat} {o1 : Nat} {x3 : Int} {x4 : Int} {x5 : Int} {x6 : Int} {σ : ZSto} (hn : 73 ≤ n) (hc0 : zIsT o0) (hc1 : zIsB o1)
    (h : (250 ≤ x6 → P 0 σ) ∧ (¬ (250 ≤ x6) → ZkZ X M_X7_has d n [.ref (zB X + o0), iV x5] σ (fun v5 σ6 => (v5 = 0 → P 0 σ6) ∧ (¬ (v5 = 0) → ZkZ X M_X0_packedAs d n [.ref (zB X + o1), .ref (zB X + (o0 + 12)), iV (x5 * 3)] σ6 (fun v14 σ15 => (v14 = 0 → (0 ≤ x5 ∧ x5 < 250) ∧ (∀ y24 : Int, y24 = gI σ15 (o0 + 1) x5.toNat → R32 (x6 + 1) ∧ L_X7_isBarred_54 X d n (zpZ P) o0 o1 x3 x4 y24 (x6 + 1) σ15)) ∧ (¬ (v14 = 0) → (x4 = 1 → P 1 σ15) ∧ (¬ (x4 = 1) → (0 ≤ x5 ∧ x5 < 250) ∧ (¬ gI σ15 (o0 + 10) x5.toNat = x3 → (∀ y39 : Int, y39 = gI σ15 (o0 + 1) x5.toNat → R32 (x6 + 1) ∧ L_X7_isBarred_54 X d n (zpZ P) o0 o1 x3 x4 y39 (x6 + 1) σ15)) ∧ (gI σ15 (o0 + 10) x5.toNat = x3 → P 1 σ15)))))))) :
    L_X7_isBarred_54 X d n (zpZ P) o0 o1 x3 x4 x5 x6 σ := by
  intro hx3 hx4 hx5 hx6 k0
  unfold Zn
  refine r_iload dX7_isBarred_54 rfl ?_
  refine r_sipush dX7_isBarred_56 rfl ?_
  refine r_icmp_ge (t := 120) dX7_isBarred_59 rfl hx6 (r32c rfl) (fun c1 => ?_) (fun c2 => ?_)
  · have h3 := h.1 c1
    refine r_iconst dX7_isBarred_120 ?_
    exact r_zreturn dX7_isBarred_121 rfl (Or.inl rfl) ⟨k0, _, rfl, (Or.inl rfl), h3⟩
  · have h4 := h.2 c2
    refine r_aload_n dX7_isBarred_62 rfl ?_
    refine r_iload dX7_isBarred_63 rfl ?_
    refine n_callV (N := M_X7_has) (As := [iV x5]) (st := []) dX7_isBarred_65 mk_X7_has km_RX7_65 kd_X7_has rfl (zT_lt hc0 hn) (zT_s hc0) (q := (RX7, TX7, 17)) rfl rfl (zFits_rm d n n n (Nat.le_refl n)) (Nat.le_of_ble_eq_true rfl) rfl k0 h4 ?_
    rintro _ σ6 k7 ⟨v5, rfl, h8, h9⟩
    change Zm _ _ _ _ _ _ 68 _ [iV v5] _
    refine r_if_eq (t := 120) dX7_isBarred_68 rfl (r32_z h8)  (fun c10 => ?_) (fun c11 => ?_)
    · have h12 := h9.1 c10
      refine r_iconst dX7_isBarred_120 ?_
      exact r_zreturn dX7_isBarred_121 rfl (Or.inl rfl) ⟨k7, _, rfl, (Or.inl rfl), h12⟩
    · have h13 := h9.2 c11
      refine r_aload_n dX7_isBarred_71 rfl ?_
      refine r_aload_n dX7_isBarred_72 rfl ?_
      refine r_getP (a := (o0 + 12)) dX7_isBarred_73 kf_RX7_45 (zT_lt hc0 hn) (zT_s hc0) rfl (k7.1 _ _ _ (zT_lt hc0 hn) (zT_p11 hc0)) ?_
      refine r_iload dX7_isBarred_76 rfl ?_
      refine r_iconst dX7_isBarred_78 ?_
      refine r_imul dX7_isBarred_79 ?_
      refine n_callV (N := M_X0_packedAs) (As := [.ref (zB X + (o0 + 12)), iV (x5 * 3)]) (st := []) dX7_isBarred_80 mk_X0_packedAs km_RX7_112 kd_X0_packedAs rfl (zB_lt hc1 hn) (zB_s hc1) (q := (RX0, TX0, 13)) rfl rfl (zFits_rm d n n n (Nat.le_refl n)) (Nat.le_of_ble_eq_true rfl) rfl k7 h13 ?_
      rintro _ σ15 k16 ⟨v14, rfl, h17, h18⟩
      change Zm _ _ _ _ _ _ 83 _ [iV v14] _
      refine r_if_eq (t := 105) dX7_isBarred_83 rfl (r32_z h17)  (fun c19 => ?_) (fun c20 => ?_)
      · have h21 := h18.1 c19
        refine r_aload_n dX7_isBarred_105 rfl ?_
        refine r_getP (a := (o0 + 1)) dX7_isBarred_106 kf_RX7_9 (zT_lt hc0 hn) (zT_s hc0) rfl (k16.1 _ _ _ (zT_lt hc0 hn) (zT_p0 hc0)) ?_
        refine r_iload dX7_isBarred_109 rfl ?_
        obtain ⟨h22, h23⟩ := h21
        refine r_ialoadE dX7_isBarred_111 (zT_l0 hc0 hn) (zT_s0 hc0) h22.1 h22.2 rfl ?_
        refine r_name (fun y24 e25 => ?_)
        have h26 := h23 y24 e25
        refine r_istore dX7_isBarred_112 rfl rfl ?_
        refine r_iinc dX7_isBarred_114 rfl rfl rfl ?_
        refine r_goto (t := 54) dX7_isBarred_117 rfl ?_
        obtain ⟨h27, h28⟩ := h26
        exact r_mask [true, true, false, true, true, true, true] rfl (h28 hx3 hx4 (by rw [e25]; exact (k16.2.1 _ _)) h27 k16)
      · have h29 := h18.2 c20
        refine r_iload dX7_isBarred_86 rfl ?_
        refine r_iconst dX7_isBarred_88 ?_
        refine r_icmp_eq (t := 103) dX7_isBarred_89 rfl hx4 (r32c rfl) (fun c30 => ?_) (fun c31 => ?_)
        · have h32 := h29.1 c30
          refine r_iconst dX7_isBarred_103 ?_
          exact r_zreturn dX7_isBarred_104 rfl (Or.inr rfl) ⟨k16, _, rfl, (Or.inr rfl), h32⟩
        · have h33 := h29.2 c31
          refine r_aload_n dX7_isBarred_92 rfl ?_
          refine r_getP (a := (o0 + 10)) dX7_isBarred_93 kf_RX7_39 (zT_lt hc0 hn) (zT_s hc0) rfl (k16.1 _ _ _ (zT_lt hc0 hn) (zT_p9 hc0)) ?_
          refine r_iload dX7_isBarred_96 rfl ?_
          obtain ⟨h34, h35⟩ := h33
          refine r_ialoadE dX7_isBarred_98 (zT_l9 hc0 hn) (zT_s9 hc0) h34.1 h34.2 rfl ?_
          refine r_iload_n dX7_isBarred_99 rfl ?_
          refine r_icmp_ne (t := 105) dX7_isBarred_100 rfl (k16.2.1 _ _) hx3 (fun c36 => ?_) (fun c37 => ?_)
          · have h38 := h35.1 c36
            refine r_aload_n dX7_isBarred_105 rfl ?_
            refine r_getP (a := (o0 + 1)) dX7_isBarred_106 kf_RX7_9 (zT_lt hc0 hn) (zT_s hc0) rfl (k16.1 _ _ _ (zT_lt hc0 hn) (zT_p0 hc0)) ?_
            refine r_iload dX7_isBarred_109 rfl ?_
            refine r_ialoadE dX7_isBarred_111 (zT_l0 hc0 hn) (zT_s0 hc0) h34.1 h34.2 rfl ?_
            refine r_name (fun y39 e40 => ?_)
            have h41 := h38 y39 e40
            refine r_istore dX7_isBarred_112 rfl rfl ?_
            refine r_iinc dX7_isBarred_114 rfl rfl rfl ?_
            refine r_goto (t := 54) dX7_isBarred_117 rfl ?_
            obtain ⟨h42, h43⟩ := h41
            exact r_mask [true, true, false, true, true, true, true] rfl (h43 hx3 hx4 (by rw [e40]; exact (k16.2.1 _ _)) h42 k16)
          · have h44 := h35.2 c37
            refine r_iconst dX7_isBarred_103 ?_
            exact r_zreturn dX7_isBarred_104 rfl (Or.inr rfl) ⟨k16, _, rfl, (Or.inr rfl), h44⟩
/-! StoneRoom$Tree.takenBy -/
theorem dX7_takenBy_0 : decode M_X7_takenBy.2.1 0 = .ok (.iconst 0, 1) := by decide +kernel
theorem dX7_takenBy_1 : decode M_X7_takenBy.2.1 1 = .ok (.istore_n 2, 1) := by decide +kernel
theorem dX7_takenBy_2 : decode M_X7_takenBy.2.1 2 = .ok (.aload_n 0, 1) := by decide +kernel
theorem dX7_takenBy_3 : decode M_X7_takenBy.2.1 3 = .ok (.getfield 62, 3) := by decide +kernel
theorem dX7_takenBy_6 : decode M_X7_takenBy.2.1 6 = .ok (.istore_n 3, 1) := by decide +kernel
theorem dX7_takenBy_7 : decode M_X7_takenBy.2.1 7 = .ok (.iconst 0, 1) := by decide +kernel
theorem dX7_takenBy_8 : decode M_X7_takenBy.2.1 8 = .ok (.istore 4, 2) := by decide +kernel
theorem dX7_takenBy_10 : decode M_X7_takenBy.2.1 10 = .ok (.iload 4, 2) := by decide +kernel
theorem dX7_takenBy_12 : decode M_X7_takenBy.2.1 12 = .ok (.sipush 250, 3) := by decide +kernel
theorem dX7_takenBy_15 : decode M_X7_takenBy.2.1 15 = .ok (.if_icmp .ge 43, 3) := by decide +kernel
theorem dX7_takenBy_18 : decode M_X7_takenBy.2.1 18 = .ok (.aload_n 0, 1) := by decide +kernel
theorem dX7_takenBy_19 : decode M_X7_takenBy.2.1 19 = .ok (.iload_n 3, 1) := by decide +kernel
theorem dX7_takenBy_20 : decode M_X7_takenBy.2.1 20 = .ok (.invokevirtual 65, 3) := by decide +kernel
theorem dX7_takenBy_23 : decode M_X7_takenBy.2.1 23 = .ok (.ifCond .eq 35, 3) := by decide +kernel
theorem dX7_takenBy_26 : decode M_X7_takenBy.2.1 26 = .ok (.aload_n 0, 1) := by decide +kernel
theorem dX7_takenBy_27 : decode M_X7_takenBy.2.1 27 = .ok (.getfield 33, 3) := by decide +kernel
theorem dX7_takenBy_30 : decode M_X7_takenBy.2.1 30 = .ok (.iload_n 3, 1) := by decide +kernel
theorem dX7_takenBy_31 : decode M_X7_takenBy.2.1 31 = .ok (.iaload, 1) := by decide +kernel
theorem dX7_takenBy_32 : decode M_X7_takenBy.2.1 32 = .ok (.iload_n 1, 1) := by decide +kernel
theorem dX7_takenBy_33 : decode M_X7_takenBy.2.1 33 = .ok (.if_icmp .ne 12, 3) := by decide +kernel
theorem dX7_takenBy_36 : decode M_X7_takenBy.2.1 36 = .ok (.iload_n 2, 1) := by decide +kernel
theorem dX7_takenBy_37 : decode M_X7_takenBy.2.1 37 = .ok (.aload_n 0, 1) := by decide +kernel
theorem dX7_takenBy_38 : decode M_X7_takenBy.2.1 38 = .ok (.getfield 42, 3) := by decide +kernel
theorem dX7_takenBy_41 : decode M_X7_takenBy.2.1 41 = .ok (.iload_n 3, 1) := by decide +kernel
theorem dX7_takenBy_42 : decode M_X7_takenBy.2.1 42 = .ok (.iaload, 1) := by decide +kernel
theorem dX7_takenBy_43 : decode M_X7_takenBy.2.1 43 = .ok (.iadd, 1) := by decide +kernel
theorem dX7_takenBy_44 : decode M_X7_takenBy.2.1 44 = .ok (.istore_n 2, 1) := by decide +kernel
theorem dX7_takenBy_45 : decode M_X7_takenBy.2.1 45 = .ok (.aload_n 0, 1) := by decide +kernel
theorem dX7_takenBy_46 : decode M_X7_takenBy.2.1 46 = .ok (.getfield 9, 3) := by decide +kernel
theorem dX7_takenBy_49 : decode M_X7_takenBy.2.1 49 = .ok (.iload_n 3, 1) := by decide +kernel
theorem dX7_takenBy_50 : decode M_X7_takenBy.2.1 50 = .ok (.iaload, 1) := by decide +kernel
theorem dX7_takenBy_51 : decode M_X7_takenBy.2.1 51 = .ok (.istore_n 3, 1) := by decide +kernel
theorem dX7_takenBy_52 : decode M_X7_takenBy.2.1 52 = .ok (.iinc 4 1, 3) := by decide +kernel
theorem dX7_takenBy_55 : decode M_X7_takenBy.2.1 55 = .ok (.goto (-45), 3) := by decide +kernel
theorem dX7_takenBy_58 : decode M_X7_takenBy.2.1 58 = .ok (.iload_n 2, 1) := by decide +kernel
theorem dX7_takenBy_59 : decode M_X7_takenBy.2.1 59 = .ok (.ireturn, 1) := by decide +kernel
def L_X7_takenBy_10 (X : ZX) (d n : Nat) (P : Option Value → ZSto → Prop) (o0 : Nat) (x1 : Int) (x2 : Int) (x3 : Int) (x4 : Int) (σ : ZSto) : Prop := R32 x1 → R32 x2 → R32 x3 → R32 x4 → ZOk n σ → Zn X M_X7_takenBy d n P 10 [some (.ref (zB X + o0)), some (iV x1), some (iV x2), some (iV x3), some (iV x4)] [] σ
theorem w_X7_takenBy {X : ZX} {d n : Nat} {P : Int → ZSto → Prop} {o0 : Nat} {x1 : Int} {σ : ZSto} (hn : 73 ≤ n) (hc0 : zIsT o0) (hx1 : R32 x1)
    (h : (∀ y1 : Int, y1 = gI σ o0 16 → L_X7_takenBy_10 X d n (zpI P) o0 x1 0 y1 0 σ)) :
    ZkI X M_X7_takenBy (d + 1) n [.ref (zB X + o0), iV x1] σ P := by
  refine zk_of (ls := [some (.ref (zB X + o0)), some (iV x1), none, none, none]) pl_RX7 (Nat.le_of_ble_eq_true rfl) rfl (fun k0 => ?_)
  unfold Zn
  refine r_iconst dX7_takenBy_0 ?_
  refine r_istore_n dX7_takenBy_1 rfl rfl ?_
  refine r_aload_n dX7_takenBy_2 rfl ?_
  refine r_getI dX7_takenBy_3 kf_RX7_62 (zT_lt hc0 hn) (zT_s hc0) (Or.inl rfl) rfl ?_
  refine r_name (fun y1 e2 => ?_)
  have h3 := h y1 e2
  refine r_istore_n dX7_takenBy_6 rfl rfl ?_
  refine r_iconst dX7_takenBy_7 ?_
  refine r_istore dX7_takenBy_8 rfl rfl ?_
  exact r_mask [true, true, true, true, true] rfl (h3 hx1 (r32c rfl) (by rw [e2]; exact (k0.2.1 _ _)) (r32c rfl) k0)
theorem b_X7_takenBy_10 {X : ZX} {d n : Nat} {P : Int → ZSto → Prop} {o0 : Nat} {x1 : Int} {x2 : Int} {x3 : Int} {x4 : Int} {σ : ZSto} (hn : 73 ≤ n) (hc0 : zIsT o0)
    (h : (250 ≤ x4 → P x2 σ) ∧ (¬ (250 ≤ x4) → ZkZ X M_X7_has d n [.ref (zB X + o0), iV x3] σ (fun v5 σ6 => (v5 = 0 → P x2 σ6) ∧ (¬ (v5 = 0) → (0 ≤ x3 ∧ x3 < 250) ∧ (¬ gI σ6 (o0 + 8) x3.toNat = x1 → (∀ y19 : Int, y19 = gI σ6 (o0 + 1) x3.toNat → R32 (x4 + 1) ∧ L_X7_takenBy_10 X d n (zpI P) o0 x1 x2 y19 (x4 + 1) σ6)) ∧ (gI σ6 (o0 + 8) x3.toNat = x1 → (∀ y25 : Int, y25 = x2 + (gI σ6 (o0 + 11) x3.toNat) → (∀ y28 : Int, y28 = gI σ6 (o0 + 1) x3.toNat → R32 y25 ∧ R32 (x4 + 1) ∧ L_X7_takenBy_10 X d n (zpI P) o0 x1 y25 y28 (x4 + 1) σ6))))))) :
    L_X7_takenBy_10 X d n (zpI P) o0 x1 x2 x3 x4 σ := by
  intro hx1 hx2 hx3 hx4 k0
  unfold Zn
  refine r_iload dX7_takenBy_10 rfl ?_
  refine r_sipush dX7_takenBy_12 rfl ?_
  refine r_icmp_ge (t := 58) dX7_takenBy_15 rfl hx4 (r32c rfl) (fun c1 => ?_) (fun c2 => ?_)
  · have h3 := h.1 c1
    refine r_iload_n dX7_takenBy_58 rfl ?_
    exact r_ireturn dX7_takenBy_59 rfl ⟨k0, _, rfl, hx2, h3⟩
  · have h4 := h.2 c2
    refine r_aload_n dX7_takenBy_18 rfl ?_
    refine r_iload_n dX7_takenBy_19 rfl ?_
    refine n_callV (N := M_X7_has) (As := [iV x3]) (st := []) dX7_takenBy_20 mk_X7_has km_RX7_65 kd_X7_has rfl (zT_lt hc0 hn) (zT_s hc0) (q := (RX7, TX7, 17)) rfl rfl (zFits_rm d n n n (Nat.le_refl n)) (Nat.le_of_ble_eq_true rfl) rfl k0 h4 ?_
    rintro _ σ6 k7 ⟨v5, rfl, h8, h9⟩
    change Zm _ _ _ _ _ _ 23 _ [iV v5] _
    refine r_if_eq (t := 58) dX7_takenBy_23 rfl (r32_z h8)  (fun c10 => ?_) (fun c11 => ?_)
    · have h12 := h9.1 c10
      refine r_iload_n dX7_takenBy_58 rfl ?_
      exact r_ireturn dX7_takenBy_59 rfl ⟨k7, _, rfl, hx2, h12⟩
    · have h13 := h9.2 c11
      refine r_aload_n dX7_takenBy_26 rfl ?_
      refine r_getP (a := (o0 + 8)) dX7_takenBy_27 kf_RX7_33 (zT_lt hc0 hn) (zT_s hc0) rfl (k7.1 _ _ _ (zT_lt hc0 hn) (zT_p7 hc0)) ?_
      refine r_iload_n dX7_takenBy_30 rfl ?_
      obtain ⟨h14, h15⟩ := h13
      refine r_ialoadE dX7_takenBy_31 (zT_l7 hc0 hn) (zT_s7 hc0) h14.1 h14.2 rfl ?_
      refine r_iload_n dX7_takenBy_32 rfl ?_
      refine r_icmp_ne (t := 45) dX7_takenBy_33 rfl (k7.2.1 _ _) hx1 (fun c16 => ?_) (fun c17 => ?_)
      · have h18 := h15.1 c16
        refine r_aload_n dX7_takenBy_45 rfl ?_
        refine r_getP (a := (o0 + 1)) dX7_takenBy_46 kf_RX7_9 (zT_lt hc0 hn) (zT_s hc0) rfl (k7.1 _ _ _ (zT_lt hc0 hn) (zT_p0 hc0)) ?_
        refine r_iload_n dX7_takenBy_49 rfl ?_
        refine r_ialoadE dX7_takenBy_50 (zT_l0 hc0 hn) (zT_s0 hc0) h14.1 h14.2 rfl ?_
        refine r_name (fun y19 e20 => ?_)
        have h21 := h18 y19 e20
        refine r_istore_n dX7_takenBy_51 rfl rfl ?_
        refine r_iinc dX7_takenBy_52 rfl rfl rfl ?_
        refine r_goto (t := 10) dX7_takenBy_55 rfl ?_
        obtain ⟨h22, h23⟩ := h21
        exact r_mask [true, true, true, true, true] rfl (h23 hx1 hx2 (by rw [e20]; exact (k7.2.1 _ _)) h22 k7)
      · have h24 := h15.2 c17
        refine r_iload_n dX7_takenBy_36 rfl ?_
        refine r_aload_n dX7_takenBy_37 rfl ?_
        refine r_getP (a := (o0 + 11)) dX7_takenBy_38 kf_RX7_42 (zT_lt hc0 hn) (zT_s hc0) rfl (k7.1 _ _ _ (zT_lt hc0 hn) (zT_p10 hc0)) ?_
        refine r_iload_n dX7_takenBy_41 rfl ?_
        refine r_ialoadE dX7_takenBy_42 (zT_l10 hc0 hn) (zT_s10 hc0) h14.1 h14.2 rfl ?_
        refine r_iadd dX7_takenBy_43 ?_
        refine r_name (fun y25 e26 => ?_)
        have h27 := h24 y25 e26
        refine r_istore_n dX7_takenBy_44 rfl rfl ?_
        refine r_aload_n dX7_takenBy_45 rfl ?_
        refine r_getP (a := (o0 + 1)) dX7_takenBy_46 kf_RX7_9 (zT_lt hc0 hn) (zT_s hc0) rfl (k7.1 _ _ _ (zT_lt hc0 hn) (zT_p0 hc0)) ?_
        refine r_iload_n dX7_takenBy_49 rfl ?_
        refine r_ialoadE dX7_takenBy_50 (zT_l0 hc0 hn) (zT_s0 hc0) h14.1 h14.2 rfl ?_
        refine r_name (fun y28 e29 => ?_)
        have h30 := h27 y28 e29
        refine r_istore_n dX7_takenBy_51 rfl rfl ?_
        refine r_iinc dX7_takenBy_52 rfl rfl rfl ?_
        refine r_goto (t := 10) dX7_takenBy_55 rfl ?_
        obtain ⟨h31, h32⟩ := h30
        obtain ⟨h33, h34⟩ := h32
        exact r_mask [true, true, true, true, true] rfl (h34 hx1 h31 (by rw [e29]; exact (k7.2.1 _ _)) h33 k7)
/-! StoneRoom$Tree.tell -/
theorem dX7_tell_0 : decode M_X7_tell.2.1 0 = .ok (.aload_n 0, 1) := by decide +kernel
theorem dX7_tell_1 : decode M_X7_tell.2.1 1 = .ok (.iload_n 1, 1) := by decide +kernel
theorem dX7_tell_2 : decode M_X7_tell.2.1 2 = .ok (.invokevirtual 65, 3) := by decide +kernel
theorem dX7_tell_5 : decode M_X7_tell.2.1 5 = .ok (.ifCond .ne 5, 3) := by decide +kernel
theorem dX7_tell_8 : decode M_X7_tell.2.1 8 = .ok (.iconst (-1), 1) := by decide +kernel
theorem dX7_tell_9 : decode M_X7_tell.2.1 9 = .ok (.ireturn, 1) := by decide +kernel
theorem dX7_tell_10 : decode M_X7_tell.2.1 10 = .ok (.iload_n 2, 1) := by decide +kernel
theorem dX7_tell_11 : decode M_X7_tell.2.1 11 = .ok (.tableswitch 105 0 8 #[49, 56, 105, 63, 70, 77, 84, 91, 98], 49) := by decide +kernel
theorem dX7_tell_60 : decode M_X7_tell.2.1 60 = .ok (.aload_n 0, 1) := by decide +kernel
theorem dX7_tell_61 : decode M_X7_tell.2.1 61 = .ok (.getfield 9, 3) := by decide +kernel
theorem dX7_tell_64 : decode M_X7_tell.2.1 64 = .ok (.iload_n 1, 1) := by decide +kernel
theorem dX7_tell_65 : decode M_X7_tell.2.1 65 = .ok (.iaload, 1) := by decide +kernel
theorem dX7_tell_66 : decode M_X7_tell.2.1 66 = .ok (.ireturn, 1) := by decide +kernel
theorem dX7_tell_67 : decode M_X7_tell.2.1 67 = .ok (.aload_n 0, 1) := by decide +kernel
theorem dX7_tell_68 : decode M_X7_tell.2.1 68 = .ok (.getfield 30, 3) := by decide +kernel
theorem dX7_tell_71 : decode M_X7_tell.2.1 71 = .ok (.iload_n 1, 1) := by decide +kernel
theorem dX7_tell_72 : decode M_X7_tell.2.1 72 = .ok (.iaload, 1) := by decide +kernel
theorem dX7_tell_73 : decode M_X7_tell.2.1 73 = .ok (.ireturn, 1) := by decide +kernel
theorem dX7_tell_74 : decode M_X7_tell.2.1 74 = .ok (.aload_n 0, 1) := by decide +kernel
theorem dX7_tell_75 : decode M_X7_tell.2.1 75 = .ok (.getfield 33, 3) := by decide +kernel
theorem dX7_tell_78 : decode M_X7_tell.2.1 78 = .ok (.iload_n 1, 1) := by decide +kernel
theorem dX7_tell_79 : decode M_X7_tell.2.1 79 = .ok (.iaload, 1) := by decide +kernel
theorem dX7_tell_80 : decode M_X7_tell.2.1 80 = .ok (.ireturn, 1) := by decide +kernel
theorem dX7_tell_81 : decode M_X7_tell.2.1 81 = .ok (.aload_n 0, 1) := by decide +kernel
theorem dX7_tell_82 : decode M_X7_tell.2.1 82 = .ok (.getfield 36, 3) := by decide +kernel
theorem dX7_tell_85 : decode M_X7_tell.2.1 85 = .ok (.iload_n 1, 1) := by decide +kernel
theorem dX7_tell_86 : decode M_X7_tell.2.1 86 = .ok (.iaload, 1) := by decide +kernel
theorem dX7_tell_87 : decode M_X7_tell.2.1 87 = .ok (.ireturn, 1) := by decide +kernel
theorem dX7_tell_88 : decode M_X7_tell.2.1 88 = .ok (.aload_n 0, 1) := by decide +kernel
theorem dX7_tell_89 : decode M_X7_tell.2.1 89 = .ok (.getfield 24, 3) := by decide +kernel
theorem dX7_tell_92 : decode M_X7_tell.2.1 92 = .ok (.iload_n 1, 1) := by decide +kernel
theorem dX7_tell_93 : decode M_X7_tell.2.1 93 = .ok (.iaload, 1) := by decide +kernel
theorem dX7_tell_94 : decode M_X7_tell.2.1 94 = .ok (.ireturn, 1) := by decide +kernel
theorem dX7_tell_95 : decode M_X7_tell.2.1 95 = .ok (.aload_n 0, 1) := by decide +kernel
theorem dX7_tell_96 : decode M_X7_tell.2.1 96 = .ok (.getfield 27, 3) := by decide +kernel
theorem dX7_tell_99 : decode M_X7_tell.2.1 99 = .ok (.iload_n 1, 1) := by decide +kernel
theorem dX7_tell_100 : decode M_X7_tell.2.1 100 = .ok (.iaload, 1) := by decide +kernel
theorem dX7_tell_101 : decode M_X7_tell.2.1 101 = .ok (.ireturn, 1) := by decide +kernel
theorem dX7_tell_102 : decode M_X7_tell.2.1 102 = .ok (.aload_n 0, 1) := by decide +kernel
theorem dX7_tell_103 : decode M_X7_tell.2.1 103 = .ok (.getfield 39, 3) := by decide +kernel
theorem dX7_tell_106 : decode M_X7_tell.2.1 106 = .ok (.iload_n 1, 1) := by decide +kernel
theorem dX7_tell_107 : decode M_X7_tell.2.1 107 = .ok (.iaload, 1) := by decide +kernel
theorem dX7_tell_108 : decode M_X7_tell.2.1 108 = .ok (.ireturn, 1) := by decide +kernel
theorem dX7_tell_109 : decode M_X7_tell.2.1 109 = .ok (.aload_n 0, 1) := by decide +kernel
theorem dX7_tell_110 : decode M_X7_tell.2.1 110 = .ok (.getfield 42, 3) := by decide +kernel
theorem dX7_tell_113 : decode M_X7_tell.2.1 113 = .ok (.iload_n 1, 1) := by decide +kernel
theorem dX7_tell_114 : decode M_X7_tell.2.1 114 = .ok (.iaload, 1) := by decide +kernel
theorem dX7_tell_115 : decode M_X7_tell.2.1 115 = .ok (.ireturn, 1) := by decide +kernel
theorem dX7_tell_116 : decode M_X7_tell.2.1 116 = .ok (.iconst (-1), 1) := by decide +kernel
theorem dX7_tell_117 : decode M_X7_tell.2.1 117 = .ok (.ireturn, 1) := by decide +kernel
theorem w_X7_tell {X : ZX} {d n : Nat} {P : Int → ZSto → Prop} {o0 : Nat} {x1 : Int} {x2 : Int} {σ : ZSto} (hn : 73 ≤ n) (hc0 : zIsT o0) (hx1 : R32 x1) (hx2 : R32 x2)
    (h : ZkZ X M_X7_has d n [.ref (zB X + o0), iV x1] σ (fun v1 σ2 => (¬ v1 = 0 → (x2 = 0 → (0 ≤ x1 ∧ x1 < 250) ∧ P (gI σ2 (o0 + 1) x1.toNat) σ2) ∧ (x2 = 1 → (0 ≤ x1 ∧ x1 < 250) ∧ P (gI σ2 (o0 + 7) x1.toNat) σ2) ∧ (x2 = 2 → P ((-1)) σ2) ∧ (x2 = 3 → (0 ≤ x1 ∧ x1 < 250) ∧ P (gI σ2 (o0 + 8) x1.toNat) σ2) ∧ (x2 = 4 → (0 ≤ x1 ∧ x1 < 250) ∧ P (gI σ2 (o0 + 9) x1.toNat) σ2) ∧ (x2 = 5 → (0 ≤ x1 ∧ x1 < 250) ∧ P (gI σ2 (o0 + 5) x1.toNat) σ2) ∧ (x2 = 6 → (0 ≤ x1 ∧ x1 < 250) ∧ P (gI σ2 (o0 + 6) x1.toNat) σ2) ∧ (x2 = 7 → (0 ≤ x1 ∧ x1 < 250) ∧ P (gI σ2 (o0 + 10) x1.toNat) σ2) ∧ (x2 = 8 → (0 ≤ x1 ∧ x1 < 250) ∧ P (gI σ2 (o0 + 11) x1.toNat) σ2) ∧ ((x2 < 0 ∨ 8 < x2) → P ((-1)) σ2)) ∧ (v1 = 0 → P ((-1)) σ2))) :
    ZkI X M_X7_tell (d + 1) n [.ref (zB X + o0), iV x1, iV x2] σ P := by
  refine zk_of (ls := [some (.ref (zB X + o0)), some (iV x1), some (iV x2)]) pl_RX7 (Nat.le_of_ble_eq_true rfl) rfl (fun k0 => ?_)
  unfold Zn
  refine r_aload_n dX7_tell_0 rfl ?_
  refine r_iload_n dX7_tell_1 rfl ?_
  refine n_callV (N := M_X7_has) (As := [iV x1]) (st := []) dX7_tell_2 mk_X7_has km_RX7_65 kd_X7_has rfl (zT_lt hc0 hn) (zT_s hc0) (q := (RX7, TX7, 17)) rfl rfl (zFits_rm d n n n (Nat.le_refl n)) (Nat.le_of_ble_eq_true rfl) rfl k0 h ?_
  rintro _ σ2 k3 ⟨v1, rfl, h4, h5⟩
  change Zm _ _ _ _ _ _ 5 _ [iV v1] _
  refine r_if_ne (t := 10) dX7_tell_5 rfl (r32_z h4)  (fun c6 => ?_) (fun c7 => ?_)
  · have h8 := h5.1 c6
    refine r_iload_n dX7_tell_10 rfl ?_
    by_cases c9 : x2 = 0
    · have h10 := h8.1 c9
      refine r_tabIn (t := 60) dX7_tell_11 hx2 (by rw [c9]; decide) (by rw [c9]; decide) (by rw [c9]; rfl) rfl ?_
      refine r_aload_n dX7_tell_60 rfl ?_
      refine r_getP (a := (o0 + 1)) dX7_tell_61 kf_RX7_9 (zT_lt hc0 hn) (zT_s hc0) rfl (k3.1 _ _ _ (zT_lt hc0 hn) (zT_p0 hc0)) ?_
      refine r_iload_n dX7_tell_64 rfl ?_
      obtain ⟨h11, h12⟩ := h10
      refine r_ialoadE dX7_tell_65 (zT_l0 hc0 hn) (zT_s0 hc0) h11.1 h11.2 rfl ?_
      exact r_ireturn dX7_tell_66 rfl ⟨k3, _, rfl, (k3.2.1 _ _), h12⟩
    by_cases c13 : x2 = 1
    · have h14 := h8.2.1 c13
      refine r_tabIn (t := 67) dX7_tell_11 hx2 (by rw [c13]; decide) (by rw [c13]; decide) (by rw [c13]; rfl) rfl ?_
      refine r_aload_n dX7_tell_67 rfl ?_
      refine r_getP (a := (o0 + 7)) dX7_tell_68 kf_RX7_30 (zT_lt hc0 hn) (zT_s hc0) rfl (k3.1 _ _ _ (zT_lt hc0 hn) (zT_p6 hc0)) ?_
      refine r_iload_n dX7_tell_71 rfl ?_
      obtain ⟨h15, h16⟩ := h14
      refine r_ialoadE dX7_tell_72 (zT_l6 hc0 hn) (zT_s6 hc0) h15.1 h15.2 rfl ?_
      exact r_ireturn dX7_tell_73 rfl ⟨k3, _, rfl, (k3.2.1 _ _), h16⟩
    by_cases c17 : x2 = 2
    · have h18 := h8.2.2.1 c17
      refine r_tabIn (t := 116) dX7_tell_11 hx2 (by rw [c17]; decide) (by rw [c17]; decide) (by rw [c17]; rfl) rfl ?_
      refine r_iconst dX7_tell_116 ?_
      exact r_ireturn dX7_tell_117 rfl ⟨k3, _, rfl, (r32c rfl), h18⟩
    by_cases c19 : x2 = 3
    · have h20 := h8.2.2.2.1 c19
      refine r_tabIn (t := 74) dX7_tell_11 hx2 (by rw [c19]; decide) (by rw [c19]; decide) (by rw [c19]; rfl) rfl ?_
      refine r_aload_n dX7_tell_74 rfl ?_
      refine r_getP (a := (o0 + 8)) dX7_tell_75 kf_RX7_33 (zT_lt hc0 hn) (zT_s hc0) rfl (k3.1 _ _ _ (zT_lt hc0 hn) (zT_p7 hc0)) ?_
      refine r_iload_n dX7_tell_78 rfl ?_
      obtain ⟨h21, h22⟩ := h20
      refine r_ialoadE dX7_tell_79 (zT_l7 hc0 hn) (zT_s7 hc0) h21.1 h21.2 rfl ?_
      exact r_ireturn dX7_tell_80 rfl ⟨k3, _, rfl, (k3.2.1 _ _), h22⟩
    by_cases c23 : x2 = 4
    · have h24 := h8.2.2.2.2.1 c23
      refine r_tabIn (t := 81) dX7_tell_11 hx2 (by rw [c23]; decide) (by rw [c23]; decide) (by rw [c23]; rfl) rfl ?_
      refine r_aload_n dX7_tell_81 rfl ?_
      refine r_getP (a := (o0 + 9)) dX7_tell_82 kf_RX7_36 (zT_lt hc0 hn) (zT_s hc0) rfl (k3.1 _ _ _ (zT_lt hc0 hn) (zT_p8 hc0)) ?_
      refine r_iload_n dX7_tell_85 rfl ?_
      obtain ⟨h25, h26⟩ := h24
      refine r_ialoadE dX7_tell_86 (zT_l8 hc0 hn) (zT_s8 hc0) h25.1 h25.2 rfl ?_
      exact r_ireturn dX7_tell_87 rfl ⟨k3, _, rfl, (k3.2.1 _ _), h26⟩
    by_cases c27 : x2 = 5
    · have h28 := h8.2.2.2.2.2.1 c27
      refine r_tabIn (t := 88) dX7_tell_11 hx2 (by rw [c27]; decide) (by rw [c27]; decide) (by rw [c27]; rfl) rfl ?_
      refine r_aload_n dX7_tell_88 rfl ?_
      refine r_getP (a := (o0 + 5)) dX7_tell_89 kf_RX7_24 (zT_lt hc0 hn) (zT_s hc0) rfl (k3.1 _ _ _ (zT_lt hc0 hn) (zT_p4 hc0)) ?_
      refine r_iload_n dX7_tell_92 rfl ?_
      obtain ⟨h29, h30⟩ := h28
      refine r_ialoadE dX7_tell_93 (zT_l4 hc0 hn) (zT_s4 hc0) h29.1 h29.2 rfl ?_
      exact r_ireturn dX7_tell_94 rfl ⟨k3, _, rfl, (k3.2.1 _ _), h30⟩
    by_cases c31 : x2 = 6
    · have h32 := h8.2.2.2.2.2.2.1 c31
      refine r_tabIn (t := 95) dX7_tell_11 hx2 (by rw [c31]; decide) (by rw [c31]; decide) (by rw [c31]; rfl) rfl ?_
      refine r_aload_n dX7_tell_95 rfl ?_
      refine r_getP (a := (o0 + 6)) dX7_tell_96 kf_RX7_27 (zT_lt hc0 hn) (zT_s hc0) rfl (k3.1 _ _ _ (zT_lt hc0 hn) (zT_p5 hc0)) ?_
      refine r_iload_n dX7_tell_99 rfl ?_
      obtain ⟨h33, h34⟩ := h32
      refine r_ialoadE dX7_tell_100 (zT_l5 hc0 hn) (zT_s5 hc0) h33.1 h33.2 rfl ?_
      exact r_ireturn dX7_tell_101 rfl ⟨k3, _, rfl, (k3.2.1 _ _), h34⟩
    by_cases c35 : x2 = 7
    · have h36 := h8.2.2.2.2.2.2.2.1 c35
      refine r_tabIn (t := 102) dX7_tell_11 hx2 (by rw [c35]; decide) (by rw [c35]; decide) (by rw [c35]; rfl) rfl ?_
      refine r_aload_n dX7_tell_102 rfl ?_
      refine r_getP (a := (o0 + 10)) dX7_tell_103 kf_RX7_39 (zT_lt hc0 hn) (zT_s hc0) rfl (k3.1 _ _ _ (zT_lt hc0 hn) (zT_p9 hc0)) ?_
      refine r_iload_n dX7_tell_106 rfl ?_
      obtain ⟨h37, h38⟩ := h36
      refine r_ialoadE dX7_tell_107 (zT_l9 hc0 hn) (zT_s9 hc0) h37.1 h37.2 rfl ?_
      exact r_ireturn dX7_tell_108 rfl ⟨k3, _, rfl, (k3.2.1 _ _), h38⟩
    by_cases c39 : x2 = 8
    · have h40 := h8.2.2.2.2.2.2.2.2.1 c39
      refine r_tabIn (t := 109) dX7_tell_11 hx2 (by rw [c39]; decide) (by rw [c39]; decide) (by rw [c39]; rfl) rfl ?_
      refine r_aload_n dX7_tell_109 rfl ?_
      refine r_getP (a := (o0 + 11)) dX7_tell_110 kf_RX7_42 (zT_lt hc0 hn) (zT_s hc0) rfl (k3.1 _ _ _ (zT_lt hc0 hn) (zT_p10 hc0)) ?_
      refine r_iload_n dX7_tell_113 rfl ?_
      obtain ⟨h41, h42⟩ := h40
      refine r_ialoadE dX7_tell_114 (zT_l10 hc0 hn) (zT_s10 hc0) h41.1 h41.2 rfl ?_
      exact r_ireturn dX7_tell_115 rfl ⟨k3, _, rfl, (k3.2.1 _ _), h42⟩
    · have c44 : (x2 < 0 ∨ 8 < x2) := by omega
      have h43 := h8.2.2.2.2.2.2.2.2.2 c44
      refine r_tabOut (t := 116) dX7_tell_11 hx2 c44 rfl ?_
      refine r_iconst dX7_tell_116 ?_
      exact r_ireturn dX7_tell_117 rfl ⟨k3, _, rfl, (r32c rfl), h43⟩
  · have h45 := h5.2 c7
    refine r_iconst dX7_tell_8 ?_
    exact r_ireturn dX7_tell_9 rfl ⟨k3, _, rfl, (r32c rfl), h45⟩
