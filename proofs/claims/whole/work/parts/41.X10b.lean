/-! StoneRoomModel.end -/
theorem dX10_end_0 : decode M_X10_end.2.1 0 = .ok (.iload_n 1, 1) := by decide +kernel
theorem dX10_end_1 : decode M_X10_end.2.1 1 = .ok (.ifCond .lt 11, 3) := by decide +kernel
theorem dX10_end_4 : decode M_X10_end.2.1 4 = .ok (.iload_n 1, 1) := by decide +kernel
theorem dX10_end_5 : decode M_X10_end.2.1 5 = .ok (.aload_n 0, 1) := by decide +kernel
theorem dX10_end_6 : decode M_X10_end.2.1 6 = .ok (.getfield 195, 3) := by decide +kernel
theorem dX10_end_9 : decode M_X10_end.2.1 9 = .ok (.if_icmp .le 5, 3) := by decide +kernel
theorem dX10_end_12 : decode M_X10_end.2.1 12 = .ok (.iconst (-1), 1) := by decide +kernel
theorem dX10_end_13 : decode M_X10_end.2.1 13 = .ok (.ireturn, 1) := by decide +kernel
theorem dX10_end_14 : decode M_X10_end.2.1 14 = .ok (.aload_n 0, 1) := by decide +kernel
theorem dX10_end_15 : decode M_X10_end.2.1 15 = .ok (.iload_n 1, 1) := by decide +kernel
theorem dX10_end_16 : decode M_X10_end.2.1 16 = .ok (.putfield 195, 3) := by decide +kernel
theorem dX10_end_19 : decode M_X10_end.2.1 19 = .ok (.iload_n 1, 1) := by decide +kernel
theorem dX10_end_20 : decode M_X10_end.2.1 20 = .ok (.ireturn, 1) := by decide +kernel
theorem w_X10_end {X : ZX} {d n : Nat} {P : Int → ZSto → Prop} {x1 : Int} {σ : ZSto} (hn : 104 ≤ n)  (hx1 : R32 x1)
    (h : (x1 < 0 → P ((-1)) σ) ∧ (¬ (x1 < 0) → (x1 ≤ gI σ 73 20 → P x1 (sI σ 73 20 x1)) ∧ (¬ (x1 ≤ gI σ 73 20) → P ((-1)) σ))) :
    ZkI X M_X10_end (d + 1) n [.ref (zB X + 73), iV x1] σ P := by
  refine zk_of (ls := [some (.ref (zB X + 73)), some (iV x1)]) pl_RX10 (Nat.le_of_ble_eq_true rfl) rfl (fun k0 => ?_)
  unfold Zn
  refine r_iload_n dX10_end_0 rfl ?_
  refine r_if_lt (t := 12) dX10_end_1 rfl hx1  (fun c1 => ?_) (fun c2 => ?_)
  · have h3 := h.1 c1
    refine r_iconst dX10_end_12 ?_
    exact r_ireturn dX10_end_13 rfl ⟨k0, _, rfl, (r32c rfl), h3⟩
  · have h4 := h.2 c2
    refine r_iload_n dX10_end_4 rfl ?_
    refine r_aload_n dX10_end_5 rfl ?_
    refine r_getI dX10_end_6 kf_RX10_195 (zlt hn rfl) sh_73 (Or.inl rfl) rfl ?_
    refine r_icmp_le (t := 14) dX10_end_9 rfl hx1 (k0.2.1 _ _) (fun c5 => ?_) (fun c6 => ?_)
    · have h7 := h4.1 c5
      refine r_aload_n dX10_end_14 rfl ?_
      refine r_iload_n dX10_end_15 rfl ?_
      refine r_putI dX10_end_16 kf_RX10_195 (zlt hn rfl) sh_73 rfl (Or.inl rfl) ?_
      have k8 := zok_o (i := 20) (x := x1) k0 sh_73 hx1
      refine r_iload_n dX10_end_19 rfl ?_
      exact r_ireturn dX10_end_20 rfl ⟨k8, _, rfl, hx1, h7⟩
    · have h9 := h4.2 c6
      refine r_iconst dX10_end_12 ?_
      exact r_ireturn dX10_end_13 rfl ⟨k0, _, rfl, (r32c rfl), h9⟩
/-! StoneRoomModel.place -/
theorem dX10_place_0 : decode M_X10_place.2.1 0 = .ok (.aload_n 0, 1) := by decide +kernel
theorem dX10_place_1 : decode M_X10_place.2.1 1 = .ok (.getfield 62, 3) := by decide +kernel
theorem dX10_place_4 : decode M_X10_place.2.1 4 = .ok (.ireturn, 1) := by decide +kernel
theorem w_X10_place {X : ZX} {d n : Nat} {P : Int → ZSto → Prop}  {σ : ZSto} (hn : 104 ≤ n)  
    (h : P (gI σ 73 23) σ) :
    ZkI X M_X10_place (d + 1) n [.ref (zB X + 73)] σ P := by
  refine zk_of (ls := [some (.ref (zB X + 73))]) pl_RX10 (Nat.le_of_ble_eq_true rfl) rfl (fun k0 => ?_)
  unfold Zn
  refine r_aload_n dX10_place_0 rfl ?_
  refine r_getI dX10_place_1 kf_RX10_62 (zlt hn rfl) sh_73 (Or.inl rfl) rfl ?_
  exact r_ireturn dX10_place_4 rfl ⟨k0, _, rfl, (k0.2.1 _ _), h⟩
/-! StoneRoomModel.see -/
theorem dX10_see_0 : decode M_X10_see.2.1 0 = .ok (.aload_n 0, 1) := by decide +kernel
theorem dX10_see_1 : decode M_X10_see.2.1 1 = .ok (.getfield 201, 3) := by decide +kernel
theorem dX10_see_4 : decode M_X10_see.2.1 4 = .ok (.aload_n 0, 1) := by decide +kernel
theorem dX10_see_5 : decode M_X10_see.2.1 5 = .ok (.getfield 195, 3) := by decide +kernel
theorem dX10_see_8 : decode M_X10_see.2.1 8 = .ok (.if_icmp .ge 19, 3) := by decide +kernel
theorem dX10_see_11 : decode M_X10_see.2.1 11 = .ok (.aload_n 0, 1) := by decide +kernel
theorem dX10_see_12 : decode M_X10_see.2.1 12 = .ok (.getfield 59, 3) := by decide +kernel
theorem dX10_see_15 : decode M_X10_see.2.1 15 = .ok (.aload_n 0, 1) := by decide +kernel
theorem dX10_see_16 : decode M_X10_see.2.1 16 = .ok (.getfield 201, 3) := by decide +kernel
theorem dX10_see_19 : decode M_X10_see.2.1 19 = .ok (.baload, 1) := by decide +kernel
theorem dX10_see_20 : decode M_X10_see.2.1 20 = .ok (.sipush 255, 3) := by decide +kernel
theorem dX10_see_23 : decode M_X10_see.2.1 23 = .ok (.iand, 1) := by decide +kernel
theorem dX10_see_24 : decode M_X10_see.2.1 24 = .ok (.goto 6, 3) := by decide +kernel
theorem dX10_see_27 : decode M_X10_see.2.1 27 = .ok (.sipush 256, 3) := by decide +kernel
theorem dX10_see_30 : decode M_X10_see.2.1 30 = .ok (.ireturn, 1) := by decide +kernel
theorem w_X10_see {X : ZX} {d n : Nat} {P : Int → ZSto → Prop}  {σ : ZSto} (hn : 104 ≤ n)  
    (h : (gI σ 73 20 ≤ gI σ 73 24 → P 256 σ) ∧ (¬ (gI σ 73 20 ≤ gI σ 73 24) → (0 ≤ gI σ 73 24 ∧ gI σ 73 24 < 1500) ∧ P (andI (gI σ 88 ((gI σ 73 24).toNat)) 255) σ)) :
    ZkI X M_X10_see (d + 1) n [.ref (zB X + 73)] σ P := by
  refine zk_of (ls := [some (.ref (zB X + 73))]) pl_RX10 (Nat.le_of_ble_eq_true rfl) rfl (fun k0 => ?_)
  unfold Zn
  refine r_aload_n dX10_see_0 rfl ?_
  refine r_getI dX10_see_1 kf_RX10_201 (zlt hn rfl) sh_73 (Or.inl rfl) rfl ?_
  refine r_aload_n dX10_see_4 rfl ?_
  refine r_getI dX10_see_5 kf_RX10_195 (zlt hn rfl) sh_73 (Or.inl rfl) rfl ?_
  refine r_icmp_ge (t := 27) dX10_see_8 rfl (k0.2.1 _ _) (k0.2.1 _ _) (fun c1 => ?_) (fun c2 => ?_)
  · have h3 := h.1 c1
    refine r_sipush dX10_see_27 rfl ?_
    exact r_ireturn dX10_see_30 rfl ⟨k0, _, rfl, (r32c rfl), h3⟩
  · have h4 := h.2 c2
    refine r_aload_n dX10_see_11 rfl ?_
    refine r_getP (a := 88) dX10_see_12 kf_RX10_59 (zlt hn rfl) sh_73 rfl (k0.1 _ _ _ (zlt hn rfl) p_73_19) ?_
    refine r_aload_n dX10_see_15 rfl ?_
    refine r_getI dX10_see_16 kf_RX10_201 (zlt hn rfl) sh_73 (Or.inl rfl) rfl ?_
    obtain ⟨h5, h6⟩ := h4
    refine r_baloadE dX10_see_19 (zlt hn rfl) sh_88 h5.1 h5.2 rfl ?_
    refine r_sipush dX10_see_20 rfl ?_
    refine r_iand dX10_see_23 ?_
    refine r_goto (t := 30) dX10_see_24 rfl ?_
    exact r_ireturn dX10_see_30 rfl ⟨k0, _, rfl, (r32_and _ _), h6⟩
/-! StoneRoomModel.blanks -/
theorem dX10_blanks_0 : decode M_X10_blanks.2.1 0 = .ok (.aload_n 0, 1) := by decide +kernel
theorem dX10_blanks_1 : decode M_X10_blanks.2.1 1 = .ok (.invokevirtual 204, 3) := by decide +kernel
theorem dX10_blanks_4 : decode M_X10_blanks.2.1 4 = .ok (.bipush 32, 2) := by decide +kernel
theorem dX10_blanks_6 : decode M_X10_blanks.2.1 6 = .ok (.if_icmp .eq 21, 3) := by decide +kernel
theorem dX10_blanks_9 : decode M_X10_blanks.2.1 9 = .ok (.aload_n 0, 1) := by decide +kernel
theorem dX10_blanks_10 : decode M_X10_blanks.2.1 10 = .ok (.invokevirtual 204, 3) := by decide +kernel
theorem dX10_blanks_13 : decode M_X10_blanks.2.1 13 = .ok (.bipush 10, 2) := by decide +kernel
theorem dX10_blanks_15 : decode M_X10_blanks.2.1 15 = .ok (.if_icmp .eq 12, 3) := by decide +kernel
theorem dX10_blanks_18 : decode M_X10_blanks.2.1 18 = .ok (.aload_n 0, 1) := by decide +kernel
theorem dX10_blanks_19 : decode M_X10_blanks.2.1 19 = .ok (.invokevirtual 204, 3) := by decide +kernel
theorem dX10_blanks_22 : decode M_X10_blanks.2.1 22 = .ok (.bipush 13, 2) := by decide +kernel
theorem dX10_blanks_24 : decode M_X10_blanks.2.1 24 = .ok (.if_icmp .ne 16, 3) := by decide +kernel
theorem dX10_blanks_27 : decode M_X10_blanks.2.1 27 = .ok (.aload_n 0, 1) := by decide +kernel
theorem dX10_blanks_28 : decode M_X10_blanks.2.1 28 = .ok (.dup, 1) := by decide +kernel
theorem dX10_blanks_29 : decode M_X10_blanks.2.1 29 = .ok (.getfield 201, 3) := by decide +kernel
theorem dX10_blanks_32 : decode M_X10_blanks.2.1 32 = .ok (.iconst 1, 1) := by decide +kernel
theorem dX10_blanks_33 : decode M_X10_blanks.2.1 33 = .ok (.iadd, 1) := by decide +kernel
theorem dX10_blanks_34 : decode M_X10_blanks.2.1 34 = .ok (.putfield 201, 3) := by decide +kernel
theorem dX10_blanks_37 : decode M_X10_blanks.2.1 37 = .ok (.goto (-37), 3) := by decide +kernel
theorem dX10_blanks_40 : decode M_X10_blanks.2.1 40 = .ok (.return_, 1) := by decide +kernel
def L_X10_blanks_0 (X : ZX) (d n : Nat) (P : Option Value → ZSto → Prop)  (σ : ZSto) : Prop := ZOk n σ → Zn X M_X10_blanks d n P 0 [some (.ref (zB X + 73))] [] σ
theorem w_X10_blanks {X : ZX} {d n : Nat} {P : ZSto → Prop}  {σ : ZSto} (hn : 104 ≤ n)  
    (h : L_X10_blanks_0 X d n (zpV P) σ) :
    ZkV X M_X10_blanks (d + 1) n [.ref (zB X + 73)] σ P := by
  refine zk_of (ls := [some (.ref (zB X + 73))]) pl_RX10 (Nat.le_of_ble_eq_true rfl) rfl (fun k0 => ?_)
  unfold Zn
  exact r_mask [true] rfl (h k0)
theorem b_X10_blanks_0 {X : ZX} {d n : Nat} {P : ZSto → Prop}  {σ : ZSto} (hn : 104 ≤ n) 
    (h : ZkI X M_X10_see d n [.ref (zB X + 73)] σ (fun v1 σ2 => (v1 = 32 → R32 ((gI σ2 73 24) + 1) ∧ L_X10_blanks_0 X d n (zpV P) (sI σ2 73 24 ((gI σ2 73 24) + 1))) ∧ (¬ (v1 = 32) → ZkI X M_X10_see d n [.ref (zB X + 73)] σ2 (fun v13 σ14 => (v13 = 10 → R32 ((gI σ14 73 24) + 1) ∧ L_X10_blanks_0 X d n (zpV P) (sI σ14 73 24 ((gI σ14 73 24) + 1))) ∧ (¬ (v13 = 10) → ZkI X M_X10_see d n [.ref (zB X + 73)] σ14 (fun v25 σ26 => (¬ v25 = 13 → P σ26) ∧ (v25 = 13 → R32 ((gI σ26 73 24) + 1) ∧ L_X10_blanks_0 X d n (zpV P) (sI σ26 73 24 ((gI σ26 73 24) + 1))))))))) :
    L_X10_blanks_0 X d n (zpV P) σ := by
  intro  k0
  unfold Zn
  refine r_aload_n dX10_blanks_0 rfl ?_
  refine n_callV (N := M_X10_see) (As := []) (st := []) dX10_blanks_1 mk_X10_see km_RX10_204 kd_X10_see rfl (zlt hn rfl) sh_73 (q := (RX10, TX10, 52)) rfl rfl (zFits_rm d n n n (Nat.le_refl n)) (Nat.le_of_ble_eq_true rfl) rfl k0 h ?_
  rintro _ σ2 k3 ⟨v1, rfl, h4, h5⟩
  change Zm _ _ _ _ _ _ 4 _ [iV v1] _
  refine r_bipush dX10_blanks_4 rfl ?_
  refine r_icmp_eq (t := 27) dX10_blanks_6 rfl h4 (r32c rfl) (fun c6 => ?_) (fun c7 => ?_)
  · have h8 := h5.1 c6
    refine r_aload_n dX10_blanks_27 rfl ?_
    refine r_dup dX10_blanks_28 rfl ?_
    refine r_getI dX10_blanks_29 kf_RX10_201 (zlt hn rfl) sh_73 (Or.inl rfl) rfl ?_
    refine r_iconst dX10_blanks_32 ?_
    refine r_iadd dX10_blanks_33 ?_
    obtain ⟨h9, h10⟩ := h8
    refine r_putI dX10_blanks_34 kf_RX10_201 (zlt hn rfl) sh_73 rfl (Or.inl rfl) ?_
    have k11 := zok_o (i := 24) (x := (gI σ2 73 24) + 1) k3 sh_73 h9
    refine r_goto (t := 0) dX10_blanks_37 rfl ?_
    exact r_mask [true] rfl (h10 k11)
  · have h12 := h5.2 c7
    refine r_aload_n dX10_blanks_9 rfl ?_
    refine n_callV (N := M_X10_see) (As := []) (st := []) dX10_blanks_10 mk_X10_see km_RX10_204 kd_X10_see rfl (zlt hn rfl) sh_73 (q := (RX10, TX10, 52)) rfl rfl (zFits_rm d n n n (Nat.le_refl n)) (Nat.le_of_ble_eq_true rfl) rfl k3 h12 ?_
    rintro _ σ14 k15 ⟨v13, rfl, h16, h17⟩
    change Zm _ _ _ _ _ _ 13 _ [iV v13] _
    refine r_bipush dX10_blanks_13 rfl ?_
    refine r_icmp_eq (t := 27) dX10_blanks_15 rfl h16 (r32c rfl) (fun c18 => ?_) (fun c19 => ?_)
    · have h20 := h17.1 c18
      refine r_aload_n dX10_blanks_27 rfl ?_
      refine r_dup dX10_blanks_28 rfl ?_
      refine r_getI dX10_blanks_29 kf_RX10_201 (zlt hn rfl) sh_73 (Or.inl rfl) rfl ?_
      refine r_iconst dX10_blanks_32 ?_
      refine r_iadd dX10_blanks_33 ?_
      obtain ⟨h21, h22⟩ := h20
      refine r_putI dX10_blanks_34 kf_RX10_201 (zlt hn rfl) sh_73 rfl (Or.inl rfl) ?_
      have k23 := zok_o (i := 24) (x := (gI σ14 73 24) + 1) k15 sh_73 h21
      refine r_goto (t := 0) dX10_blanks_37 rfl ?_
      exact r_mask [true] rfl (h22 k23)
    · have h24 := h17.2 c19
      refine r_aload_n dX10_blanks_18 rfl ?_
      refine n_callV (N := M_X10_see) (As := []) (st := []) dX10_blanks_19 mk_X10_see km_RX10_204 kd_X10_see rfl (zlt hn rfl) sh_73 (q := (RX10, TX10, 52)) rfl rfl (zFits_rm d n n n (Nat.le_refl n)) (Nat.le_of_ble_eq_true rfl) rfl k15 h24 ?_
      rintro _ σ26 k27 ⟨v25, rfl, h28, h29⟩
      change Zm _ _ _ _ _ _ 22 _ [iV v25] _
      refine r_bipush dX10_blanks_22 rfl ?_
      refine r_icmp_ne (t := 40) dX10_blanks_24 rfl h28 (r32c rfl) (fun c30 => ?_) (fun c31 => ?_)
      · have h32 := h29.1 c30
        exact r_return dX10_blanks_40 rfl ⟨k27, rfl, h32⟩
      · have h33 := h29.2 c31
        refine r_aload_n dX10_blanks_27 rfl ?_
        refine r_dup dX10_blanks_28 rfl ?_
        refine r_getI dX10_blanks_29 kf_RX10_201 (zlt hn rfl) sh_73 (Or.inl rfl) rfl ?_
        refine r_iconst dX10_blanks_32 ?_
        refine r_iadd dX10_blanks_33 ?_
        obtain ⟨h34, h35⟩ := h33
        refine r_putI dX10_blanks_34 kf_RX10_201 (zlt hn rfl) sh_73 rfl (Or.inl rfl) ?_
        have k36 := zok_o (i := 24) (x := (gI σ26 73 24) + 1) k27 sh_73 h34
        refine r_goto (t := 0) dX10_blanks_37 rfl ?_
        exact r_mask [true] rfl (h35 k36)
/-! StoneRoomModel.fault -/
theorem dX10_fault_0 : decode M_X10_fault.2.1 0 = .ok (.aload_n 0, 1) := by decide +kernel
theorem dX10_fault_1 : decode M_X10_fault.2.1 1 = .ok (.getfield 207, 3) := by decide +kernel
theorem dX10_fault_4 : decode M_X10_fault.2.1 4 = .ok (.ifCond .ne 13, 3) := by decide +kernel
theorem dX10_fault_7 : decode M_X10_fault.2.1 7 = .ok (.aload_n 0, 1) := by decide +kernel
theorem dX10_fault_8 : decode M_X10_fault.2.1 8 = .ok (.iload_n 1, 1) := by decide +kernel
theorem dX10_fault_9 : decode M_X10_fault.2.1 9 = .ok (.putfield 207, 3) := by decide +kernel
theorem dX10_fault_12 : decode M_X10_fault.2.1 12 = .ok (.aload_n 0, 1) := by decide +kernel
theorem dX10_fault_13 : decode M_X10_fault.2.1 13 = .ok (.iload_n 2, 1) := by decide +kernel
theorem dX10_fault_14 : decode M_X10_fault.2.1 14 = .ok (.putfield 210, 3) := by decide +kernel
theorem dX10_fault_17 : decode M_X10_fault.2.1 17 = .ok (.iconst 0, 1) := by decide +kernel
theorem dX10_fault_18 : decode M_X10_fault.2.1 18 = .ok (.ireturn, 1) := by decide +kernel
theorem w_X10_fault {X : ZX} {d n : Nat} {P : Int → ZSto → Prop} {x1 : Int} {x2 : Int} {σ : ZSto} (hn : 104 ≤ n)  (hx1 : R32 x1) (hx2 : R32 x2)
    (h : (¬ gI σ 73 21 = 0 → P 0 σ) ∧ (gI σ 73 21 = 0 → P 0 (sI (sI σ 73 21 x1) 73 22 x2))) :
    ZkZ X M_X10_fault (d + 1) n [.ref (zB X + 73), iV x1, iV x2] σ P := by
  refine zk_of (ls := [some (.ref (zB X + 73)), some (iV x1), some (iV x2)]) pl_RX10 (Nat.le_of_ble_eq_true rfl) rfl (fun k0 => ?_)
  unfold Zn
  refine r_aload_n dX10_fault_0 rfl ?_
  refine r_getI dX10_fault_1 kf_RX10_207 (zlt hn rfl) sh_73 (Or.inl rfl) rfl ?_
  refine r_if_ne (t := 17) dX10_fault_4 rfl (k0.2.1 _ _)  (fun c1 => ?_) (fun c2 => ?_)
  · have h3 := h.1 c1
    refine r_iconst dX10_fault_17 ?_
    exact r_zreturn dX10_fault_18 rfl (Or.inl rfl) ⟨k0, _, rfl, (Or.inl rfl), h3⟩
  · have h4 := h.2 c2
    refine r_aload_n dX10_fault_7 rfl ?_
    refine r_iload_n dX10_fault_8 rfl ?_
    refine r_putI dX10_fault_9 kf_RX10_207 (zlt hn rfl) sh_73 rfl (Or.inl rfl) ?_
    have k5 := zok_o (i := 21) (x := x1) k0 sh_73 hx1
    refine r_aload_n dX10_fault_12 rfl ?_
    refine r_iload_n dX10_fault_13 rfl ?_
    refine r_putI dX10_fault_14 kf_RX10_210 (zlt hn rfl) sh_73 rfl (Or.inl rfl) ?_
    have k6 := zok_o (i := 22) (x := x2) k5 sh_73 hx2
    refine r_iconst dX10_fault_17 ?_
    exact r_zreturn dX10_fault_18 rfl (Or.inl rfl) ⟨k6, _, rfl, (Or.inl rfl), h4⟩
/-! StoneRoomModel.read -/
theorem dX10_read_0 : decode M_X10_read.2.1 0 = .ok (.aload_n 0, 1) := by decide +kernel
theorem dX10_read_1 : decode M_X10_read.2.1 1 = .ok (.iconst 0, 1) := by decide +kernel
theorem dX10_read_2 : decode M_X10_read.2.1 2 = .ok (.putfield 207, 3) := by decide +kernel
theorem dX10_read_5 : decode M_X10_read.2.1 5 = .ok (.aload_n 0, 1) := by decide +kernel
theorem dX10_read_6 : decode M_X10_read.2.1 6 = .ok (.iconst (-1), 1) := by decide +kernel
theorem dX10_read_7 : decode M_X10_read.2.1 7 = .ok (.putfield 210, 3) := by decide +kernel
theorem dX10_read_10 : decode M_X10_read.2.1 10 = .ok (.aload_n 0, 1) := by decide +kernel
theorem dX10_read_11 : decode M_X10_read.2.1 11 = .ok (.iconst 0, 1) := by decide +kernel
theorem dX10_read_12 : decode M_X10_read.2.1 12 = .ok (.putfield 201, 3) := by decide +kernel
theorem dX10_read_15 : decode M_X10_read.2.1 15 = .ok (.aload_n 0, 1) := by decide +kernel
theorem dX10_read_16 : decode M_X10_read.2.1 16 = .ok (.iconst 0, 1) := by decide +kernel
theorem dX10_read_17 : decode M_X10_read.2.1 17 = .ok (.putfield 213, 3) := by decide +kernel
theorem dX10_read_20 : decode M_X10_read.2.1 20 = .ok (.aload_n 0, 1) := by decide +kernel
theorem dX10_read_21 : decode M_X10_read.2.1 21 = .ok (.iconst (-1), 1) := by decide +kernel
theorem dX10_read_22 : decode M_X10_read.2.1 22 = .ok (.putfield 216, 3) := by decide +kernel
theorem dX10_read_25 : decode M_X10_read.2.1 25 = .ok (.aload_n 0, 1) := by decide +kernel
theorem dX10_read_26 : decode M_X10_read.2.1 26 = .ok (.iconst 1, 1) := by decide +kernel
theorem dX10_read_27 : decode M_X10_read.2.1 27 = .ok (.aload_n 0, 1) := by decide +kernel
theorem dX10_read_28 : decode M_X10_read.2.1 28 = .ok (.getfield 170, 3) := by decide +kernel
theorem dX10_read_31 : decode M_X10_read.2.1 31 = .ok (.isub, 1) := by decide +kernel
theorem dX10_read_32 : decode M_X10_read.2.1 32 = .ok (.putfield 219, 3) := by decide +kernel
theorem dX10_read_35 : decode M_X10_read.2.1 35 = .ok (.aload_n 0, 1) := by decide +kernel
theorem dX10_read_36 : decode M_X10_read.2.1 36 = .ok (.aload_n 0, 1) := by decide +kernel
theorem dX10_read_37 : decode M_X10_read.2.1 37 = .ok (.getfield 219, 3) := by decide +kernel
theorem dX10_read_40 : decode M_X10_read.2.1 40 = .ok (.bipush 9, 2) := by decide +kernel
theorem dX10_read_42 : decode M_X10_read.2.1 42 = .ok (.iconst 0, 1) := by decide +kernel
theorem dX10_read_43 : decode M_X10_read.2.1 43 = .ok (.invokevirtual 117, 3) := by decide +kernel
theorem dX10_read_46 : decode M_X10_read.2.1 46 = .ok (.aload_n 0, 1) := by decide +kernel
theorem dX10_read_47 : decode M_X10_read.2.1 47 = .ok (.bipush 9, 2) := by decide +kernel
theorem dX10_read_49 : decode M_X10_read.2.1 49 = .ok (.putfield 139, 3) := by decide +kernel
theorem dX10_read_52 : decode M_X10_read.2.1 52 = .ok (.aload_n 0, 1) := by decide +kernel
theorem dX10_read_53 : decode M_X10_read.2.1 53 = .ok (.invokevirtual 222, 3) := by decide +kernel
theorem dX10_read_56 : decode M_X10_read.2.1 56 = .ok (.istore_n 1, 1) := by decide +kernel
theorem dX10_read_57 : decode M_X10_read.2.1 57 = .ok (.aload_n 0, 1) := by decide +kernel
theorem dX10_read_58 : decode M_X10_read.2.1 58 = .ok (.iconst 0, 1) := by decide +kernel
theorem dX10_read_59 : decode M_X10_read.2.1 59 = .ok (.putfield 195, 3) := by decide +kernel
theorem dX10_read_62 : decode M_X10_read.2.1 62 = .ok (.aload_n 0, 1) := by decide +kernel
theorem dX10_read_63 : decode M_X10_read.2.1 63 = .ok (.aload_n 0, 1) := by decide +kernel
theorem dX10_read_64 : decode M_X10_read.2.1 64 = .ok (.getfield 210, 3) := by decide +kernel
theorem dX10_read_67 : decode M_X10_read.2.1 67 = .ok (.putfield 62, 3) := by decide +kernel
theorem dX10_read_70 : decode M_X10_read.2.1 70 = .ok (.iload_n 1, 1) := by decide +kernel
theorem dX10_read_71 : decode M_X10_read.2.1 71 = .ok (.ifCond .ne 8, 3) := by decide +kernel
theorem dX10_read_74 : decode M_X10_read.2.1 74 = .ok (.aload_n 0, 1) := by decide +kernel
theorem dX10_read_75 : decode M_X10_read.2.1 75 = .ok (.getfield 207, 3) := by decide +kernel
theorem dX10_read_78 : decode M_X10_read.2.1 78 = .ok (.ireturn, 1) := by decide +kernel
theorem dX10_read_79 : decode M_X10_read.2.1 79 = .ok (.aload_n 0, 1) := by decide +kernel
theorem dX10_read_80 : decode M_X10_read.2.1 80 = .ok (.aload_n 0, 1) := by decide +kernel
theorem dX10_read_81 : decode M_X10_read.2.1 81 = .ok (.getfield 219, 3) := by decide +kernel
theorem dX10_read_84 : decode M_X10_read.2.1 84 = .ok (.putfield 170, 3) := by decide +kernel
theorem dX10_read_87 : decode M_X10_read.2.1 87 = .ok (.aload_n 0, 1) := by decide +kernel
theorem dX10_read_88 : decode M_X10_read.2.1 88 = .ok (.sipush 250, 3) := by decide +kernel
theorem dX10_read_91 : decode M_X10_read.2.1 91 = .ok (.aload_n 0, 1) := by decide +kernel
theorem dX10_read_92 : decode M_X10_read.2.1 92 = .ok (.getfield 170, 3) := by decide +kernel
theorem dX10_read_95 : decode M_X10_read.2.1 95 = .ok (.imul, 1) := by decide +kernel
theorem dX10_read_96 : decode M_X10_read.2.1 96 = .ok (.putfield 173, 3) := by decide +kernel
theorem dX10_read_99 : decode M_X10_read.2.1 99 = .ok (.aload_n 0, 1) := by decide +kernel
theorem dX10_read_100 : decode M_X10_read.2.1 100 = .ok (.invokevirtual 186, 3) := by decide +kernel
theorem dX10_read_103 : decode M_X10_read.2.1 103 = .ok (.iconst 0, 1) := by decide +kernel
theorem dX10_read_104 : decode M_X10_read.2.1 104 = .ok (.ireturn, 1) := by decide +kernel
theorem w_X10_read {X : ZX} {d n : Nat} {P : Int → ZSto → Prop}  {σ : ZSto} (hn : 104 ≤ n)  
    (h : R32 (1 - (gI σ 73 10)) ∧ ZkV X M_X10_empties d n [.ref (zB X + 73), iV (1 - (gI σ 73 10)), iV 9, iV 0] (sI (sI (sI (sI (sI (sI σ 73 21 0) 73 22 ((-1))) 73 24 0) 73 26 0) 73 27 ((-1))) 73 28 (1 - (gI σ 73 10))) (fun σ10 => ZkZ X M_X10_trees d n [.ref (zB X + 73)] (sI σ10 73 13 9) (fun v15 σ16 => (¬ v15 = 0 → R32 (250 * (gI σ16 73 28)) ∧ ZkV X M_X10_clears d n [.ref (zB X + 73)] (sI (sI (sI (sI σ16 73 20 0) 73 23 (gI σ16 73 22)) 73 10 (gI σ16 73 28)) 73 11 (250 * (gI σ16 73 28))) (fun σ30 => P 0 σ30)) ∧ (v15 = 0 → P (gI σ16 73 21) (sI (sI σ16 73 20 0) 73 23 (gI σ16 73 22)))))) :
    ZkI X M_X10_read (d + 1) n [.ref (zB X + 73)] σ P := by
  refine zk_of (ls := [some (.ref (zB X + 73)), none]) pl_RX10 (Nat.le_of_ble_eq_true rfl) rfl (fun k0 => ?_)
  unfold Zn
  refine r_aload_n dX10_read_0 rfl ?_
  refine r_iconst dX10_read_1 ?_
  refine r_putI dX10_read_2 kf_RX10_207 (zlt hn rfl) sh_73 rfl (Or.inl rfl) ?_
  have k1 := zok_o (i := 21) (x := 0) k0 sh_73 (r32c rfl)
  refine r_aload_n dX10_read_5 rfl ?_
  refine r_iconst dX10_read_6 ?_
  refine r_putI dX10_read_7 kf_RX10_210 (zlt hn rfl) sh_73 rfl (Or.inl rfl) ?_
  have k2 := zok_o (i := 22) (x := (-1)) k1 sh_73 (r32c rfl)
  refine r_aload_n dX10_read_10 rfl ?_
  refine r_iconst dX10_read_11 ?_
  refine r_putI dX10_read_12 kf_RX10_201 (zlt hn rfl) sh_73 rfl (Or.inl rfl) ?_
  have k3 := zok_o (i := 24) (x := 0) k2 sh_73 (r32c rfl)
  refine r_aload_n dX10_read_15 rfl ?_
  refine r_iconst dX10_read_16 ?_
  refine r_putI dX10_read_17 kf_RX10_213 (zlt hn rfl) sh_73 rfl (Or.inl rfl) ?_
  have k4 := zok_o (i := 26) (x := 0) k3 sh_73 (r32c rfl)
  refine r_aload_n dX10_read_20 rfl ?_
  refine r_iconst dX10_read_21 ?_
  refine r_putI dX10_read_22 kf_RX10_216 (zlt hn rfl) sh_73 rfl (Or.inl rfl) ?_
  have k5 := zok_o (i := 27) (x := (-1)) k4 sh_73 (r32c rfl)
  refine r_aload_n dX10_read_25 rfl ?_
  refine r_iconst dX10_read_26 ?_
  refine r_aload_n dX10_read_27 rfl ?_
  refine r_getI dX10_read_28 kf_RX10_170 (zlt hn rfl) sh_73 (Or.inl rfl) ((gI_f (by decide)).trans ((gI_f (by decide)).trans ((gI_f (by decide)).trans ((gI_f (by decide)).trans (gI_f (by decide)))))) ?_
  refine r_isub dX10_read_31 ?_
  obtain ⟨h6, h7⟩ := h
  refine r_putI dX10_read_32 kf_RX10_219 (zlt hn rfl) sh_73 rfl (Or.inl rfl) ?_
  have k8 := zok_o (i := 28) (x := 1 - (gI σ 73 10)) k5 sh_73 h6
  refine r_aload_n dX10_read_35 rfl ?_
  refine r_aload_n dX10_read_36 rfl ?_
  refine r_getI dX10_read_37 kf_RX10_219 (zlt hn rfl) sh_73 (Or.inl rfl) (gI_same _ _ _ _) ?_
  refine r_bipush dX10_read_40 rfl ?_
  refine r_iconst dX10_read_42 ?_
  refine n_callV (N := M_X10_empties) (As := [iV (1 - (gI σ 73 10)), iV 9, iV 0]) (st := []) dX10_read_43 mk_X10_empties km_RX10_117 kd_X10_empties rfl (zlt hn rfl) sh_73 (q := (RX10, TX10, 52)) rfl rfl (zFits_rm d n n n (Nat.le_refl n)) (Nat.le_of_ble_eq_true rfl) rfl k8 h7 ?_
  rintro _ σ10 k11 ⟨rfl, h13⟩
  change Zm _ _ _ _ _ _ 46 _ [] _
  refine r_aload_n dX10_read_46 rfl ?_
  refine r_bipush dX10_read_47 rfl ?_
  refine r_putI dX10_read_49 kf_RX10_139 (zlt hn rfl) sh_73 rfl (Or.inl rfl) ?_
  have k14 := zok_o (i := 13) (x := 9) k11 sh_73 (r32c rfl)
  refine r_aload_n dX10_read_52 rfl ?_
  refine n_callV (N := M_X10_trees) (As := []) (st := []) dX10_read_53 mk_X10_trees km_RX10_222 kd_X10_trees rfl (zlt hn rfl) sh_73 (q := (RX10, TX10, 52)) rfl rfl (zFits_rm d n n n (Nat.le_refl n)) (Nat.le_of_ble_eq_true rfl) rfl k14 h13 ?_
  rintro _ σ16 k17 ⟨v15, rfl, h18, h19⟩
  change Zm _ _ _ _ _ _ 56 _ [iV v15] _
  refine r_istore_n dX10_read_56 rfl rfl ?_
  refine r_aload_n dX10_read_57 rfl ?_
  refine r_iconst dX10_read_58 ?_
  refine r_putI dX10_read_59 kf_RX10_195 (zlt hn rfl) sh_73 rfl (Or.inl rfl) ?_
  have k20 := zok_o (i := 20) (x := 0) k17 sh_73 (r32c rfl)
  refine r_aload_n dX10_read_62 rfl ?_
  refine r_aload_n dX10_read_63 rfl ?_
  refine r_getI dX10_read_64 kf_RX10_210 (zlt hn rfl) sh_73 (Or.inl rfl) (gI_f (by decide)) ?_
  refine r_putI dX10_read_67 kf_RX10_62 (zlt hn rfl) sh_73 rfl (Or.inl rfl) ?_
  have k21 := zok_o (i := 23) (x := gI σ16 73 22) k20 sh_73 (k17.2.1 _ _)
  refine r_iload_n dX10_read_70 rfl ?_
  refine r_if_ne (t := 79) dX10_read_71 rfl (r32_z h18)  (fun c22 => ?_) (fun c23 => ?_)
  · have h24 := h19.1 c22
    refine r_aload_n dX10_read_79 rfl ?_
    refine r_aload_n dX10_read_80 rfl ?_
    refine r_getI dX10_read_81 kf_RX10_219 (zlt hn rfl) sh_73 (Or.inl rfl) ((gI_f (by decide)).trans (gI_f (by decide))) ?_
    refine r_putI dX10_read_84 kf_RX10_170 (zlt hn rfl) sh_73 rfl (Or.inl rfl) ?_
    have k25 := zok_o (i := 10) (x := gI σ16 73 28) k21 sh_73 (k17.2.1 _ _)
    refine r_aload_n dX10_read_87 rfl ?_
    refine r_sipush dX10_read_88 rfl ?_
    refine r_aload_n dX10_read_91 rfl ?_
    refine r_getI dX10_read_92 kf_RX10_170 (zlt hn rfl) sh_73 (Or.inl rfl) (gI_same _ _ _ _) ?_
    refine r_imul dX10_read_95 ?_
    obtain ⟨h26, h27⟩ := h24
    refine r_putI dX10_read_96 kf_RX10_173 (zlt hn rfl) sh_73 rfl (Or.inl rfl) ?_
    have k28 := zok_o (i := 11) (x := 250 * (gI σ16 73 28)) k25 sh_73 h26
    refine r_aload_n dX10_read_99 rfl ?_
    refine n_callV (N := M_X10_clears) (As := []) (st := []) dX10_read_100 mk_X10_clears km_RX10_186 kd_X10_clears rfl (zlt hn rfl) sh_73 (q := (RX10, TX10, 52)) rfl rfl (zFits_rm d n n n (Nat.le_refl n)) (Nat.le_of_ble_eq_true rfl) rfl k28 h27 ?_
    rintro _ σ30 k31 ⟨rfl, h33⟩
    change Zm _ _ _ _ _ _ 103 _ [] _
    refine r_iconst dX10_read_103 ?_
    exact r_ireturn dX10_read_104 rfl ⟨k31, _, rfl, (r32c rfl), h33⟩
  · have h34 := h19.2 c23
    refine r_aload_n dX10_read_74 rfl ?_
    refine r_getI dX10_read_75 kf_RX10_207 (zlt hn rfl) sh_73 (Or.inl rfl) ((gI_f (by decide)).trans (gI_f (by decide))) ?_
    exact r_ireturn dX10_read_78 rfl ⟨k21, _, rfl, (k17.2.1 _ _), h34⟩
/-! StoneRoomModel.trees -/
theorem dX10_trees_0 : decode M_X10_trees.2.1 0 = .ok (.aload_n 0, 1) := by decide +kernel
theorem dX10_trees_1 : decode M_X10_trees.2.1 1 = .ok (.invokevirtual 226, 3) := by decide +kernel
theorem dX10_trees_4 : decode M_X10_trees.2.1 4 = .ok (.aload_n 0, 1) := by decide +kernel
theorem dX10_trees_5 : decode M_X10_trees.2.1 5 = .ok (.invokevirtual 204, 3) := by decide +kernel
theorem dX10_trees_8 : decode M_X10_trees.2.1 8 = .ok (.bipush 40, 2) := by decide +kernel
theorem dX10_trees_10 : decode M_X10_trees.2.1 10 = .ok (.if_icmp .eq 13, 3) := by decide +kernel
theorem dX10_trees_13 : decode M_X10_trees.2.1 13 = .ok (.aload_n 0, 1) := by decide +kernel
theorem dX10_trees_14 : decode M_X10_trees.2.1 14 = .ok (.iconst 1, 1) := by decide +kernel
theorem dX10_trees_15 : decode M_X10_trees.2.1 15 = .ok (.aload_n 0, 1) := by decide +kernel
theorem dX10_trees_16 : decode M_X10_trees.2.1 16 = .ok (.getfield 201, 3) := by decide +kernel
theorem dX10_trees_19 : decode M_X10_trees.2.1 19 = .ok (.invokevirtual 229, 3) := by decide +kernel
theorem dX10_trees_22 : decode M_X10_trees.2.1 22 = .ok (.ireturn, 1) := by decide +kernel
theorem dX10_trees_23 : decode M_X10_trees.2.1 23 = .ok (.iconst 0, 1) := by decide +kernel
theorem dX10_trees_24 : decode M_X10_trees.2.1 24 = .ok (.istore_n 1, 1) := by decide +kernel
theorem dX10_trees_25 : decode M_X10_trees.2.1 25 = .ok (.iconst 0, 1) := by decide +kernel
theorem dX10_trees_26 : decode M_X10_trees.2.1 26 = .ok (.istore_n 2, 1) := by decide +kernel
theorem dX10_trees_27 : decode M_X10_trees.2.1 27 = .ok (.aload_n 0, 1) := by decide +kernel
theorem dX10_trees_28 : decode M_X10_trees.2.1 28 = .ok (.invokevirtual 226, 3) := by decide +kernel
theorem dX10_trees_31 : decode M_X10_trees.2.1 31 = .ok (.aload_n 0, 1) := by decide +kernel
theorem dX10_trees_32 : decode M_X10_trees.2.1 32 = .ok (.invokevirtual 204, 3) := by decide +kernel
theorem dX10_trees_35 : decode M_X10_trees.2.1 35 = .ok (.istore_n 3, 1) := by decide +kernel
theorem dX10_trees_36 : decode M_X10_trees.2.1 36 = .ok (.iload_n 3, 1) := by decide +kernel
theorem dX10_trees_37 : decode M_X10_trees.2.1 37 = .ok (.bipush 40, 2) := by decide +kernel
theorem dX10_trees_39 : decode M_X10_trees.2.1 39 = .ok (.if_icmp .ne 54, 3) := by decide +kernel
theorem dX10_trees_42 : decode M_X10_trees.2.1 42 = .ok (.aload_n 0, 1) := by decide +kernel
theorem dX10_trees_43 : decode M_X10_trees.2.1 43 = .ok (.getfield 213, 3) := by decide +kernel
theorem dX10_trees_46 : decode M_X10_trees.2.1 46 = .ok (.ifCond .eq 7, 3) := by decide +kernel
theorem dX10_trees_49 : decode M_X10_trees.2.1 49 = .ok (.iload_n 1, 1) := by decide +kernel
theorem dX10_trees_50 : decode M_X10_trees.2.1 50 = .ok (.ifCond .eq 43, 3) := by decide +kernel
theorem dX10_trees_53 : decode M_X10_trees.2.1 53 = .ok (.aload_n 0, 1) := by decide +kernel
theorem dX10_trees_54 : decode M_X10_trees.2.1 54 = .ok (.getfield 65, 3) := by decide +kernel
theorem dX10_trees_57 : decode M_X10_trees.2.1 57 = .ok (.aload_n 0, 1) := by decide +kernel
theorem dX10_trees_58 : decode M_X10_trees.2.1 58 = .ok (.getfield 213, 3) := by decide +kernel
theorem dX10_trees_61 : decode M_X10_trees.2.1 61 = .ok (.aload_n 0, 1) := by decide +kernel
theorem dX10_trees_62 : decode M_X10_trees.2.1 62 = .ok (.getfield 216, 3) := by decide +kernel
theorem dX10_trees_65 : decode M_X10_trees.2.1 65 = .ok (.iastore, 1) := by decide +kernel
theorem dX10_trees_66 : decode M_X10_trees.2.1 66 = .ok (.aload_n 0, 1) := by decide +kernel
theorem dX10_trees_67 : decode M_X10_trees.2.1 67 = .ok (.dup, 1) := by decide +kernel
theorem dX10_trees_68 : decode M_X10_trees.2.1 68 = .ok (.getfield 213, 3) := by decide +kernel
theorem dX10_trees_71 : decode M_X10_trees.2.1 71 = .ok (.iconst 1, 1) := by decide +kernel
theorem dX10_trees_72 : decode M_X10_trees.2.1 72 = .ok (.iadd, 1) := by decide +kernel
theorem dX10_trees_73 : decode M_X10_trees.2.1 73 = .ok (.putfield 213, 3) := by decide +kernel
theorem dX10_trees_76 : decode M_X10_trees.2.1 76 = .ok (.aload_n 0, 1) := by decide +kernel
theorem dX10_trees_77 : decode M_X10_trees.2.1 77 = .ok (.dup, 1) := by decide +kernel
theorem dX10_trees_78 : decode M_X10_trees.2.1 78 = .ok (.getfield 201, 3) := by decide +kernel
theorem dX10_trees_81 : decode M_X10_trees.2.1 81 = .ok (.iconst 1, 1) := by decide +kernel
theorem dX10_trees_82 : decode M_X10_trees.2.1 82 = .ok (.iadd, 1) := by decide +kernel
theorem dX10_trees_83 : decode M_X10_trees.2.1 83 = .ok (.putfield 201, 3) := by decide +kernel
theorem dX10_trees_86 : decode M_X10_trees.2.1 86 = .ok (.iconst 0, 1) := by decide +kernel
theorem dX10_trees_87 : decode M_X10_trees.2.1 87 = .ok (.istore_n 1, 1) := by decide +kernel
theorem dX10_trees_88 : decode M_X10_trees.2.1 88 = .ok (.iconst 0, 1) := by decide +kernel
theorem dX10_trees_89 : decode M_X10_trees.2.1 89 = .ok (.istore_n 2, 1) := by decide +kernel
theorem dX10_trees_90 : decode M_X10_trees.2.1 90 = .ok (.goto 85, 3) := by decide +kernel
theorem dX10_trees_93 : decode M_X10_trees.2.1 93 = .ok (.iload_n 3, 1) := by decide +kernel
theorem dX10_trees_94 : decode M_X10_trees.2.1 94 = .ok (.bipush 59, 2) := by decide +kernel
theorem dX10_trees_96 : decode M_X10_trees.2.1 96 = .ok (.if_icmp .ne 21, 3) := by decide +kernel
theorem dX10_trees_99 : decode M_X10_trees.2.1 99 = .ok (.iload_n 2, 1) := by decide +kernel
theorem dX10_trees_100 : decode M_X10_trees.2.1 100 = .ok (.ifCond .ne 17, 3) := by decide +kernel
theorem dX10_trees_103 : decode M_X10_trees.2.1 103 = .ok (.aload_n 0, 1) := by decide +kernel
theorem dX10_trees_104 : decode M_X10_trees.2.1 104 = .ok (.invokevirtual 232, 3) := by decide +kernel
theorem dX10_trees_107 : decode M_X10_trees.2.1 107 = .ok (.ifCond .ne 5, 3) := by decide +kernel
theorem dX10_trees_110 : decode M_X10_trees.2.1 110 = .ok (.iconst 0, 1) := by decide +kernel
theorem dX10_trees_111 : decode M_X10_trees.2.1 111 = .ok (.ireturn, 1) := by decide +kernel
theorem dX10_trees_112 : decode M_X10_trees.2.1 112 = .ok (.iconst 1, 1) := by decide +kernel
theorem dX10_trees_113 : decode M_X10_trees.2.1 113 = .ok (.istore_n 1, 1) := by decide +kernel
theorem dX10_trees_114 : decode M_X10_trees.2.1 114 = .ok (.goto 61, 3) := by decide +kernel
theorem dX10_trees_117 : decode M_X10_trees.2.1 117 = .ok (.iload_n 3, 1) := by decide +kernel
theorem dX10_trees_118 : decode M_X10_trees.2.1 118 = .ok (.bipush 41, 2) := by decide +kernel
theorem dX10_trees_120 : decode M_X10_trees.2.1 120 = .ok (.if_icmp .ne 45, 3) := by decide +kernel
theorem dX10_trees_123 : decode M_X10_trees.2.1 123 = .ok (.iload_n 1, 1) := by decide +kernel
theorem dX10_trees_124 : decode M_X10_trees.2.1 124 = .ok (.ifCond .eq 41, 3) := by decide +kernel
theorem dX10_trees_127 : decode M_X10_trees.2.1 127 = .ok (.aload_n 0, 1) := by decide +kernel
theorem dX10_trees_128 : decode M_X10_trees.2.1 128 = .ok (.dup, 1) := by decide +kernel
theorem dX10_trees_129 : decode M_X10_trees.2.1 129 = .ok (.getfield 213, 3) := by decide +kernel
theorem dX10_trees_132 : decode M_X10_trees.2.1 132 = .ok (.iconst 1, 1) := by decide +kernel
theorem dX10_trees_133 : decode M_X10_trees.2.1 133 = .ok (.isub, 1) := by decide +kernel
theorem dX10_trees_134 : decode M_X10_trees.2.1 134 = .ok (.putfield 213, 3) := by decide +kernel
theorem dX10_trees_137 : decode M_X10_trees.2.1 137 = .ok (.aload_n 0, 1) := by decide +kernel
theorem dX10_trees_138 : decode M_X10_trees.2.1 138 = .ok (.aload_n 0, 1) := by decide +kernel
theorem dX10_trees_139 : decode M_X10_trees.2.1 139 = .ok (.getfield 65, 3) := by decide +kernel
theorem dX10_trees_142 : decode M_X10_trees.2.1 142 = .ok (.aload_n 0, 1) := by decide +kernel
theorem dX10_trees_143 : decode M_X10_trees.2.1 143 = .ok (.getfield 213, 3) := by decide +kernel
theorem dX10_trees_146 : decode M_X10_trees.2.1 146 = .ok (.iaload, 1) := by decide +kernel
theorem dX10_trees_147 : decode M_X10_trees.2.1 147 = .ok (.putfield 216, 3) := by decide +kernel
theorem dX10_trees_150 : decode M_X10_trees.2.1 150 = .ok (.aload_n 0, 1) := by decide +kernel
theorem dX10_trees_151 : decode M_X10_trees.2.1 151 = .ok (.dup, 1) := by decide +kernel
theorem dX10_trees_152 : decode M_X10_trees.2.1 152 = .ok (.getfield 201, 3) := by decide +kernel
theorem dX10_trees_155 : decode M_X10_trees.2.1 155 = .ok (.iconst 1, 1) := by decide +kernel
theorem dX10_trees_156 : decode M_X10_trees.2.1 156 = .ok (.iadd, 1) := by decide +kernel
theorem dX10_trees_157 : decode M_X10_trees.2.1 157 = .ok (.putfield 201, 3) := by decide +kernel
theorem dX10_trees_160 : decode M_X10_trees.2.1 160 = .ok (.iconst 1, 1) := by decide +kernel
theorem dX10_trees_161 : decode M_X10_trees.2.1 161 = .ok (.istore_n 2, 1) := by decide +kernel
theorem dX10_trees_162 : decode M_X10_trees.2.1 162 = .ok (.goto 13, 3) := by decide +kernel
theorem dX10_trees_165 : decode M_X10_trees.2.1 165 = .ok (.aload_n 0, 1) := by decide +kernel
theorem dX10_trees_166 : decode M_X10_trees.2.1 166 = .ok (.iconst 1, 1) := by decide +kernel
theorem dX10_trees_167 : decode M_X10_trees.2.1 167 = .ok (.aload_n 0, 1) := by decide +kernel
theorem dX10_trees_168 : decode M_X10_trees.2.1 168 = .ok (.getfield 201, 3) := by decide +kernel
theorem dX10_trees_171 : decode M_X10_trees.2.1 171 = .ok (.invokevirtual 229, 3) := by decide +kernel
theorem dX10_trees_174 : decode M_X10_trees.2.1 174 = .ok (.ireturn, 1) := by decide +kernel
theorem dX10_trees_175 : decode M_X10_trees.2.1 175 = .ok (.aload_n 0, 1) := by decide +kernel
theorem dX10_trees_176 : decode M_X10_trees.2.1 176 = .ok (.getfield 213, 3) := by decide +kernel
theorem dX10_trees_179 : decode M_X10_trees.2.1 179 = .ok (.ifCond .gt (-152), 3) := by decide +kernel
theorem dX10_trees_182 : decode M_X10_trees.2.1 182 = .ok (.aload_n 0, 1) := by decide +kernel
theorem dX10_trees_183 : decode M_X10_trees.2.1 183 = .ok (.invokevirtual 226, 3) := by decide +kernel
theorem dX10_trees_186 : decode M_X10_trees.2.1 186 = .ok (.aload_n 0, 1) := by decide +kernel
theorem dX10_trees_187 : decode M_X10_trees.2.1 187 = .ok (.getfield 201, 3) := by decide +kernel
theorem dX10_trees_190 : decode M_X10_trees.2.1 190 = .ok (.aload_n 0, 1) := by decide +kernel
theorem dX10_trees_191 : decode M_X10_trees.2.1 191 = .ok (.getfield 195, 3) := by decide +kernel
theorem dX10_trees_194 : decode M_X10_trees.2.1 194 = .ok (.if_icmp .eq 15, 3) := by decide +kernel
theorem dX10_trees_197 : decode M_X10_trees.2.1 197 = .ok (.aload_n 0, 1) := by decide +kernel
theorem dX10_trees_198 : decode M_X10_trees.2.1 198 = .ok (.iconst 1, 1) := by decide +kernel
theorem dX10_trees_199 : decode M_X10_trees.2.1 199 = .ok (.aload_n 0, 1) := by decide +kernel
theorem dX10_trees_200 : decode M_X10_trees.2.1 200 = .ok (.getfield 201, 3) := by decide +kernel
theorem dX10_trees_203 : decode M_X10_trees.2.1 203 = .ok (.invokevirtual 229, 3) := by decide +kernel
theorem dX10_trees_206 : decode M_X10_trees.2.1 206 = .ok (.ifCond .eq 7, 3) := by decide +kernel
theorem dX10_trees_209 : decode M_X10_trees.2.1 209 = .ok (.iconst 1, 1) := by decide +kernel
theorem dX10_trees_210 : decode M_X10_trees.2.1 210 = .ok (.goto 4, 3) := by decide +kernel
theorem dX10_trees_213 : decode M_X10_trees.2.1 213 = .ok (.iconst 0, 1) := by decide +kernel
theorem dX10_trees_214 : decode M_X10_trees.2.1 214 = .ok (.ireturn, 1) := by decide +kernel
def L_X10_trees_27 (X : ZX) (d n : Nat) (P : Option Value → ZSto → Prop) (x1 : Int) (x2 : Int) (σ : ZSto) : Prop := R32 x1 → R32 x2 → ZOk n σ → Zn X M_X10_trees d n P 27 [some (.ref (zB X + 73)), some (iV x1), some (iV x2), none] [] σ
def L_X10_trees_53 (X : ZX) (d n : Nat) (P : Option Value → ZSto → Prop)  (σ : ZSto) : Prop := ZOk n σ → Zn X M_X10_trees d n P 53 [some (.ref (zB X + 73)), none, none, none] [] σ
def L_X10_trees_93 (X : ZX) (d n : Nat) (P : Option Value → ZSto → Prop) (x1 : Int) (x2 : Int) (x3 : Int) (σ : ZSto) : Prop := R32 x1 → R32 x2 → R32 x3 → ZOk n σ → Zn X M_X10_trees d n P 93 [some (.ref (zB X + 73)), some (iV x1), some (iV x2), some (iV x3)] [] σ
def L_X10_trees_117 (X : ZX) (d n : Nat) (P : Option Value → ZSto → Prop) (x1 : Int) (x3 : Int) (σ : ZSto) : Prop := R32 x1 → R32 x3 → ZOk n σ → Zn X M_X10_trees d n P 117 [some (.ref (zB X + 73)), some (iV x1), none, some (iV x3)] [] σ
theorem w_X10_trees {X : ZX} {d n : Nat} {P : Int → ZSto → Prop}  {σ : ZSto} (hn : 104 ≤ n)  
    (h : ZkV X M_X10_blanks d n [.ref (zB X + 73)] σ (fun σ2 => ZkI X M_X10_see d n [.ref (zB X + 73)] σ2 (fun v6 σ7 => (v6 = 40 → L_X10_trees_27 X d n (zpZ P) 0 0 σ7) ∧ (¬ (v6 = 40) → ZkZ X M_X10_fault d n [.ref (zB X + 73), iV 1, iV (gI σ7 73 24)] σ7 (fun v15 σ16 => P v15 σ16))))) :
    ZkZ X M_X10_trees (d + 1) n [.ref (zB X + 73)] σ P := by
  refine zk_of (ls := [some (.ref (zB X + 73)), none, none, none]) pl_RX10 (Nat.le_of_ble_eq_true rfl) rfl (fun k0 => ?_)
  unfold Zn
  refine r_aload_n dX10_trees_0 rfl ?_
  refine n_callV (N := M_X10_blanks) (As := []) (st := []) dX10_trees_1 mk_X10_blanks km_RX10_226 kd_X10_blanks rfl (zlt hn rfl) sh_73 (q := (RX10, TX10, 52)) rfl rfl (zFits_rm d n n n (Nat.le_refl n)) (Nat.le_of_ble_eq_true rfl) rfl k0 h ?_
  rintro _ σ2 k3 ⟨rfl, h5⟩
  change Zm _ _ _ _ _ _ 4 _ [] _
  refine r_aload_n dX10_trees_4 rfl ?_
  refine n_callV (N := M_X10_see) (As := []) (st := []) dX10_trees_5 mk_X10_see km_RX10_204 kd_X10_see rfl (zlt hn rfl) sh_73 (q := (RX10, TX10, 52)) rfl rfl (zFits_rm d n n n (Nat.le_refl n)) (Nat.le_of_ble_eq_true rfl) rfl k3 h5 ?_
  rintro _ σ7 k8 ⟨v6, rfl, h9, h10⟩
  change Zm _ _ _ _ _ _ 8 _ [iV v6] _
  refine r_bipush dX10_trees_8 rfl ?_
  refine r_icmp_eq (t := 23) dX10_trees_10 rfl h9 (r32c rfl) (fun c11 => ?_) (fun c12 => ?_)
  · have h13 := h10.1 c11
    refine r_iconst dX10_trees_23 ?_
    refine r_istore_n dX10_trees_24 rfl rfl ?_
    refine r_iconst dX10_trees_25 ?_
    refine r_istore_n dX10_trees_26 rfl rfl ?_
    exact r_mask [true, true, true, false] rfl (h13 (r32c rfl) (r32c rfl) k8)
  · have h14 := h10.2 c12
    refine r_aload_n dX10_trees_13 rfl ?_
    refine r_iconst dX10_trees_14 ?_
    refine r_aload_n dX10_trees_15 rfl ?_
    refine r_getI dX10_trees_16 kf_RX10_201 (zlt hn rfl) sh_73 (Or.inl rfl) rfl ?_
    refine n_callV (N := M_X10_fault) (As := [iV 1, iV (gI σ7 73 24)]) (st := []) dX10_trees_19 mk_X10_fault km_RX10_229 kd_X10_fault rfl (zlt hn rfl) sh_73 (q := (RX10, TX10, 52)) rfl rfl (zFits_rm d n n n (Nat.le_refl n)) (Nat.le_of_ble_eq_true rfl) rfl k8 h14 ?_
    rintro _ σ16 k17 ⟨v15, rfl, h18, h19⟩
    change Zm _ _ _ _ _ _ 22 _ [iV v15] _
    exact r_zreturn dX10_trees_22 rfl h18 ⟨k17, _, rfl, h18, h19⟩
theorem b_X10_trees_27 {X : ZX} {d n : Nat} {P : Int → ZSto → Prop} {x1 : Int} {x2 : Int} {σ : ZSto} (hn : 104 ≤ n) 
    (h : ZkV X M_X10_blanks d n [.ref (zB X + 73)] σ (fun σ2 => ZkI X M_X10_see d n [.ref (zB X + 73)] σ2 (fun v6 σ7 => (¬ v6 = 40 → L_X10_trees_93 X d n (zpZ P) x1 x2 v6 σ7) ∧ (v6 = 40 → (gI σ7 73 26 = 0 → L_X10_trees_53 X d n (zpZ P) σ7) ∧ (¬ (gI σ7 73 26 = 0) → (x1 = 0 → L_X10_trees_93 X d n (zpZ P) x1 x2 v6 σ7) ∧ (¬ (x1 = 0) → L_X10_trees_53 X d n (zpZ P) σ7)))))) :
    L_X10_trees_27 X d n (zpZ P) x1 x2 σ := by
  intro hx1 hx2 k0
  unfold Zn
  refine r_aload_n dX10_trees_27 rfl ?_
  refine n_callV (N := M_X10_blanks) (As := []) (st := []) dX10_trees_28 mk_X10_blanks km_RX10_226 kd_X10_blanks rfl (zlt hn rfl) sh_73 (q := (RX10, TX10, 52)) rfl rfl (zFits_rm d n n n (Nat.le_refl n)) (Nat.le_of_ble_eq_true rfl) rfl k0 h ?_
  rintro _ σ2 k3 ⟨rfl, h5⟩
  change Zm _ _ _ _ _ _ 31 _ [] _
  refine r_aload_n dX10_trees_31 rfl ?_
  refine n_callV (N := M_X10_see) (As := []) (st := []) dX10_trees_32 mk_X10_see km_RX10_204 kd_X10_see rfl (zlt hn rfl) sh_73 (q := (RX10, TX10, 52)) rfl rfl (zFits_rm d n n n (Nat.le_refl n)) (Nat.le_of_ble_eq_true rfl) rfl k3 h5 ?_
  rintro _ σ7 k8 ⟨v6, rfl, h9, h10⟩
  change Zm _ _ _ _ _ _ 35 _ [iV v6] _
  refine r_istore_n dX10_trees_35 rfl rfl ?_
  refine r_iload_n dX10_trees_36 rfl ?_
  refine r_bipush dX10_trees_37 rfl ?_
  refine r_icmp_ne (t := 93) dX10_trees_39 rfl h9 (r32c rfl) (fun c11 => ?_) (fun c12 => ?_)
  · have h13 := h10.1 c11
    exact r_mask [true, true, true, true] rfl (h13 hx1 hx2 h9 k8)
  · have h14 := h10.2 c12
    refine r_aload_n dX10_trees_42 rfl ?_
    refine r_getI dX10_trees_43 kf_RX10_213 (zlt hn rfl) sh_73 (Or.inl rfl) rfl ?_
    refine r_if_eq (t := 53) dX10_trees_46 rfl (k8.2.1 _ _)  (fun c15 => ?_) (fun c16 => ?_)
    · have h17 := h14.1 c15
      exact r_mask [true, false, false, false] rfl (h17 k8)
    · have h18 := h14.2 c16
      refine r_iload_n dX10_trees_49 rfl ?_
      refine r_if_eq (t := 93) dX10_trees_50 rfl hx1  (fun c19 => ?_) (fun c20 => ?_)
      · have h21 := h18.1 c19
        exact r_mask [true, true, true, true] rfl (h21 hx1 hx2 h9 k8)
      · have h22 := h18.2 c20
        exact r_mask [true, false, false, false] rfl (h22 k8)
theorem b_X10_trees_53 {X : ZX} {d n : Nat} {P : Int → ZSto → Prop}  {σ : ZSto} (hn : 104 ≤ n) 
    (h : (0 ≤ gI σ 73 26 ∧ gI σ 73 26 < 1500) ∧ R32 ((gI σ 73 26) + 1) ∧ R32 ((gI σ 73 24) + 1) ∧ (0 < (gI σ 73 26) + 1 → L_X10_trees_27 X d n (zpZ P) 0 0 (sI (sI (sI σ 89 ((gI σ 73 26).toNat) (gI σ 73 27)) 73 26 ((gI σ 73 26) + 1)) 73 24 ((gI σ 73 24) + 1))) ∧ (¬ (0 < (gI σ 73 26) + 1) → ZkV X M_X10_blanks d n [.ref (zB X + 73)] (sI (sI (sI σ 89 ((gI σ 73 26).toNat) (gI σ 73 27)) 73 26 ((gI σ 73 26) + 1)) 73 24 ((gI σ 73 24) + 1)) (fun σ15 => (gI σ15 73 24 = gI σ15 73 20 → P 1 σ15) ∧ (¬ (gI σ15 73 24 = gI σ15 73 20) → ZkZ X M_X10_fault d n [.ref (zB X + 73), iV 1, iV (gI σ15 73 24)] σ15 (fun v23 σ24 => (v23 = 0 → P 0 σ24) ∧ (¬ (v23 = 0) → P 1 σ24)))))) :
    L_X10_trees_53 X d n (zpZ P) σ := by
  intro  k0
  unfold Zn
  refine r_aload_n dX10_trees_53 rfl ?_
  refine r_getP (a := 89) dX10_trees_54 kf_RX10_65 (zlt hn rfl) sh_73 rfl (k0.1 _ _ _ (zlt hn rfl) p_73_25) ?_
  refine r_aload_n dX10_trees_57 rfl ?_
  refine r_getI dX10_trees_58 kf_RX10_213 (zlt hn rfl) sh_73 (Or.inl rfl) rfl ?_
  refine r_aload_n dX10_trees_61 rfl ?_
  refine r_getI dX10_trees_62 kf_RX10_216 (zlt hn rfl) sh_73 (Or.inl rfl) rfl ?_
  obtain ⟨h1, h2⟩ := h
  refine r_iastore dX10_trees_65 (zlt hn rfl) sh_89 h1.1 h1.2 ?_
  have k3 := zok_i (i := (gI σ 73 26).toNat) (x := gI σ 73 27) k0 sh_89 (k0.2.1 _ _)
  refine r_aload_n dX10_trees_66 rfl ?_
  refine r_dup dX10_trees_67 rfl ?_
  refine r_getI dX10_trees_68 kf_RX10_213 (zlt hn rfl) sh_73 (Or.inl rfl) (gI_c (by decide)) ?_
  refine r_iconst dX10_trees_71 ?_
  refine r_iadd dX10_trees_72 ?_
  obtain ⟨h4, h5⟩ := h2
  refine r_putI dX10_trees_73 kf_RX10_213 (zlt hn rfl) sh_73 rfl (Or.inl rfl) ?_
  have k6 := zok_o (i := 26) (x := (gI σ 73 26) + 1) k3 sh_73 h4
  refine r_aload_n dX10_trees_76 rfl ?_
  refine r_dup dX10_trees_77 rfl ?_
  refine r_getI dX10_trees_78 kf_RX10_201 (zlt hn rfl) sh_73 (Or.inl rfl) ((gI_f (by decide)).trans (gI_c (by decide))) ?_
  refine r_iconst dX10_trees_81 ?_
  refine r_iadd dX10_trees_82 ?_
  obtain ⟨h7, h8⟩ := h5
  refine r_putI dX10_trees_83 kf_RX10_201 (zlt hn rfl) sh_73 rfl (Or.inl rfl) ?_
  have k9 := zok_o (i := 24) (x := (gI σ 73 24) + 1) k6 sh_73 h7
  refine r_iconst dX10_trees_86 ?_
  refine r_istore_n dX10_trees_87 rfl rfl ?_
  refine r_iconst dX10_trees_88 ?_
  refine r_istore_n dX10_trees_89 rfl rfl ?_
  refine r_goto (t := 175) dX10_trees_90 rfl ?_
  refine r_aload_n dX10_trees_175 rfl ?_
  refine r_getI dX10_trees_176 kf_RX10_213 (zlt hn rfl) sh_73 (Or.inl rfl) ((gI_f (by decide)).trans (gI_same _ _ _ _)) ?_
  refine r_if_gt (t := 27) dX10_trees_179 rfl h4  (fun c10 => ?_) (fun c11 => ?_)
  · have h12 := h8.1 c10
    exact r_mask [true, true, true, false] rfl (h12 (r32c rfl) (r32c rfl) k9)
  · have h13 := h8.2 c11
    refine r_aload_n dX10_trees_182 rfl ?_
    refine n_callV (N := M_X10_blanks) (As := []) (st := []) dX10_trees_183 mk_X10_blanks km_RX10_226 kd_X10_blanks rfl (zlt hn rfl) sh_73 (q := (RX10, TX10, 52)) rfl rfl (zFits_rm d n n n (Nat.le_refl n)) (Nat.le_of_ble_eq_true rfl) rfl k9 h13 ?_
    rintro _ σ15 k16 ⟨rfl, h18⟩
    change Zm _ _ _ _ _ _ 186 _ [] _
    refine r_aload_n dX10_trees_186 rfl ?_
    refine r_getI dX10_trees_187 kf_RX10_201 (zlt hn rfl) sh_73 (Or.inl rfl) rfl ?_
    refine r_aload_n dX10_trees_190 rfl ?_
    refine r_getI dX10_trees_191 kf_RX10_195 (zlt hn rfl) sh_73 (Or.inl rfl) rfl ?_
    refine r_icmp_eq (t := 209) dX10_trees_194 rfl (k16.2.1 _ _) (k16.2.1 _ _) (fun c19 => ?_) (fun c20 => ?_)
    · have h21 := h18.1 c19
      refine r_iconst dX10_trees_209 ?_
      refine r_goto (t := 214) dX10_trees_210 rfl ?_
      exact r_zreturn dX10_trees_214 rfl (Or.inr rfl) ⟨k16, _, rfl, (Or.inr rfl), h21⟩
    · have h22 := h18.2 c20
      refine r_aload_n dX10_trees_197 rfl ?_
      refine r_iconst dX10_trees_198 ?_
      refine r_aload_n dX10_trees_199 rfl ?_
      refine r_getI dX10_trees_200 kf_RX10_201 (zlt hn rfl) sh_73 (Or.inl rfl) rfl ?_
      refine n_callV (N := M_X10_fault) (As := [iV 1, iV (gI σ15 73 24)]) (st := []) dX10_trees_203 mk_X10_fault km_RX10_229 kd_X10_fault rfl (zlt hn rfl) sh_73 (q := (RX10, TX10, 52)) rfl rfl (zFits_rm d n n n (Nat.le_refl n)) (Nat.le_of_ble_eq_true rfl) rfl k16 h22 ?_
      rintro _ σ24 k25 ⟨v23, rfl, h26, h27⟩
      change Zm _ _ _ _ _ _ 206 _ [iV v23] _
      refine r_if_eq (t := 213) dX10_trees_206 rfl (r32_z h26)  (fun c28 => ?_) (fun c29 => ?_)
      · have h30 := h27.1 c28
        refine r_iconst dX10_trees_213 ?_
        exact r_zreturn dX10_trees_214 rfl (Or.inl rfl) ⟨k25, _, rfl, (Or.inl rfl), h30⟩
      · have h31 := h27.2 c29
        refine r_iconst dX10_trees_209 ?_
        refine r_goto (t := 214) dX10_trees_210 rfl ?_
        exact r_zreturn dX10_trees_214 rfl (Or.inr rfl) ⟨k25, _, rfl, (Or.inr rfl), h31⟩
theorem b_X10_trees_93 {X : ZX} {d n : Nat} {P : Int → ZSto → Prop} {x1 : Int} {x2 : Int} {x3 : Int} {σ : ZSto} (hn : 104 ≤ n) 
    (h : (¬ x3 = 59 → L_X10_trees_117 X d n (zpZ P) x1 x3 σ) ∧ (x3 = 59 → (¬ x2 = 0 → L_X10_trees_117 X d n (zpZ P) x1 x3 σ) ∧ (x2 = 0 → ZkZ X M_X10_aNode d n [.ref (zB X + 73)] σ (fun v9 σ10 => (¬ v9 = 0 → (0 < gI σ10 73 26 → L_X10_trees_27 X d n (zpZ P) 1 x2 σ10) ∧ (¬ (0 < gI σ10 73 26) → ZkV X M_X10_blanks d n [.ref (zB X + 73)] σ10 (fun σ22 => (gI σ22 73 24 = gI σ22 73 20 → P 1 σ22) ∧ (¬ (gI σ22 73 24 = gI σ22 73 20) → ZkZ X M_X10_fault d n [.ref (zB X + 73), iV 1, iV (gI σ22 73 24)] σ22 (fun v30 σ31 => (v30 = 0 → P 0 σ31) ∧ (¬ (v30 = 0) → P 1 σ31)))))) ∧ (v9 = 0 → P 0 σ10))))) :
    L_X10_trees_93 X d n (zpZ P) x1 x2 x3 σ := by
  intro hx1 hx2 hx3 k0
  unfold Zn
  refine r_iload_n dX10_trees_93 rfl ?_
  refine r_bipush dX10_trees_94 rfl ?_
  refine r_icmp_ne (t := 117) dX10_trees_96 rfl hx3 (r32c rfl) (fun c1 => ?_) (fun c2 => ?_)
  · have h3 := h.1 c1
    exact r_mask [true, true, false, true] rfl (h3 hx1 hx3 k0)
  · have h4 := h.2 c2
    refine r_iload_n dX10_trees_99 rfl ?_
    refine r_if_ne (t := 117) dX10_trees_100 rfl hx2  (fun c5 => ?_) (fun c6 => ?_)
    · have h7 := h4.1 c5
      exact r_mask [true, true, false, true] rfl (h7 hx1 hx3 k0)
    · have h8 := h4.2 c6
      refine r_aload_n dX10_trees_103 rfl ?_
      refine n_callV (N := M_X10_aNode) (As := []) (st := []) dX10_trees_104 mk_X10_aNode km_RX10_232 kd_X10_aNode rfl (zlt hn rfl) sh_73 (q := (RX10, TX10, 52)) rfl rfl (zFits_rm d n n n (Nat.le_refl n)) (Nat.le_of_ble_eq_true rfl) rfl k0 h8 ?_
      rintro _ σ10 k11 ⟨v9, rfl, h12, h13⟩
      change Zm _ _ _ _ _ _ 107 _ [iV v9] _
      refine r_if_ne (t := 112) dX10_trees_107 rfl (r32_z h12)  (fun c14 => ?_) (fun c15 => ?_)
      · have h16 := h13.1 c14
        refine r_iconst dX10_trees_112 ?_
        refine r_istore_n dX10_trees_113 rfl rfl ?_
        refine r_goto (t := 175) dX10_trees_114 rfl ?_
        refine r_aload_n dX10_trees_175 rfl ?_
        refine r_getI dX10_trees_176 kf_RX10_213 (zlt hn rfl) sh_73 (Or.inl rfl) rfl ?_
        refine r_if_gt (t := 27) dX10_trees_179 rfl (k11.2.1 _ _)  (fun c17 => ?_) (fun c18 => ?_)
        · have h19 := h16.1 c17
          exact r_mask [true, true, true, false] rfl (h19 (r32c rfl) hx2 k11)
        · have h20 := h16.2 c18
          refine r_aload_n dX10_trees_182 rfl ?_
          refine n_callV (N := M_X10_blanks) (As := []) (st := []) dX10_trees_183 mk_X10_blanks km_RX10_226 kd_X10_blanks rfl (zlt hn rfl) sh_73 (q := (RX10, TX10, 52)) rfl rfl (zFits_rm d n n n (Nat.le_refl n)) (Nat.le_of_ble_eq_true rfl) rfl k11 h20 ?_
          rintro _ σ22 k23 ⟨rfl, h25⟩
          change Zm _ _ _ _ _ _ 186 _ [] _
          refine r_aload_n dX10_trees_186 rfl ?_
          refine r_getI dX10_trees_187 kf_RX10_201 (zlt hn rfl) sh_73 (Or.inl rfl) rfl ?_
          refine r_aload_n dX10_trees_190 rfl ?_
          refine r_getI dX10_trees_191 kf_RX10_195 (zlt hn rfl) sh_73 (Or.inl rfl) rfl ?_
          refine r_icmp_eq (t := 209) dX10_trees_194 rfl (k23.2.1 _ _) (k23.2.1 _ _) (fun c26 => ?_) (fun c27 => ?_)
          · have h28 := h25.1 c26
            refine r_iconst dX10_trees_209 ?_
            refine r_goto (t := 214) dX10_trees_210 rfl ?_
            exact r_zreturn dX10_trees_214 rfl (Or.inr rfl) ⟨k23, _, rfl, (Or.inr rfl), h28⟩
          · have h29 := h25.2 c27
            refine r_aload_n dX10_trees_197 rfl ?_
            refine r_iconst dX10_trees_198 ?_
            refine r_aload_n dX10_trees_199 rfl ?_
            refine r_getI dX10_trees_200 kf_RX10_201 (zlt hn rfl) sh_73 (Or.inl rfl) rfl ?_
            refine n_callV (N := M_X10_fault) (As := [iV 1, iV (gI σ22 73 24)]) (st := []) dX10_trees_203 mk_X10_fault km_RX10_229 kd_X10_fault rfl (zlt hn rfl) sh_73 (q := (RX10, TX10, 52)) rfl rfl (zFits_rm d n n n (Nat.le_refl n)) (Nat.le_of_ble_eq_true rfl) rfl k23 h29 ?_
            rintro _ σ31 k32 ⟨v30, rfl, h33, h34⟩
            change Zm _ _ _ _ _ _ 206 _ [iV v30] _
            refine r_if_eq (t := 213) dX10_trees_206 rfl (r32_z h33)  (fun c35 => ?_) (fun c36 => ?_)
            · have h37 := h34.1 c35
              refine r_iconst dX10_trees_213 ?_
              exact r_zreturn dX10_trees_214 rfl (Or.inl rfl) ⟨k32, _, rfl, (Or.inl rfl), h37⟩
            · have h38 := h34.2 c36
              refine r_iconst dX10_trees_209 ?_
              refine r_goto (t := 214) dX10_trees_210 rfl ?_
              exact r_zreturn dX10_trees_214 rfl (Or.inr rfl) ⟨k32, _, rfl, (Or.inr rfl), h38⟩
      · have h39 := h13.2 c15
        refine r_iconst dX10_trees_110 ?_
        exact r_zreturn dX10_trees_111 rfl (Or.inl rfl) ⟨k11, _, rfl, (Or.inl rfl), h39⟩
theorem b_X10_trees_117 {X : ZX} {d n : Nat} {P : Int → ZSto → Prop} {x1 : Int} {x3 : Int} {σ : ZSto} (hn : 104 ≤ n) 
    (h : (¬ x3 = 41 → ZkZ X M_X10_fault d n [.ref (zB X + 73), iV 1, iV (gI σ 73 24)] σ (fun v4 σ5 => P v4 σ5)) ∧ (x3 = 41 → (x1 = 0 → ZkZ X M_X10_fault d n [.ref (zB X + 73), iV 1, iV (gI σ 73 24)] σ (fun v13 σ14 => P v13 σ14)) ∧ (¬ (x1 = 0) → R32 ((gI σ 73 26) - 1) ∧ (0 ≤ (gI σ 73 26) - 1 ∧ (gI σ 73 26) - 1 < 1500) ∧ R32 ((gI σ 73 24) + 1) ∧ (0 < (gI σ 73 26) - 1 → L_X10_trees_27 X d n (zpZ P) x1 1 (sI (sI (sI σ 73 26 ((gI σ 73 26) - 1)) 73 27 (gI σ 89 (((gI σ 73 26) - 1).toNat))) 73 24 ((gI σ 73 24) + 1))) ∧ (¬ (0 < (gI σ 73 26) - 1) → ZkV X M_X10_blanks d n [.ref (zB X + 73)] (sI (sI (sI σ 73 26 ((gI σ 73 26) - 1)) 73 27 (gI σ 89 (((gI σ 73 26) - 1).toNat))) 73 24 ((gI σ 73 24) + 1)) (fun σ33 => (gI σ33 73 24 = gI σ33 73 20 → P 1 σ33) ∧ (¬ (gI σ33 73 24 = gI σ33 73 20) → ZkZ X M_X10_fault d n [.ref (zB X + 73), iV 1, iV (gI σ33 73 24)] σ33 (fun v41 σ42 => (v41 = 0 → P 0 σ42) ∧ (¬ (v41 = 0) → P 1 σ42)))))))) :
    L_X10_trees_117 X d n (zpZ P) x1 x3 σ := by
  intro hx1 hx3 k0
  unfold Zn
  refine r_iload_n dX10_trees_117 rfl ?_
  refine r_bipush dX10_trees_118 rfl ?_
  refine r_icmp_ne (t := 165) dX10_trees_120 rfl hx3 (r32c rfl) (fun c1 => ?_) (fun c2 => ?_)
  · have h3 := h.1 c1
    refine r_aload_n dX10_trees_165 rfl ?_
    refine r_iconst dX10_trees_166 ?_
    refine r_aload_n dX10_trees_167 rfl ?_
    refine r_getI dX10_trees_168 kf_RX10_201 (zlt hn rfl) sh_73 (Or.inl rfl) rfl ?_
    refine n_callV (N := M_X10_fault) (As := [iV 1, iV (gI σ 73 24)]) (st := []) dX10_trees_171 mk_X10_fault km_RX10_229 kd_X10_fault rfl (zlt hn rfl) sh_73 (q := (RX10, TX10, 52)) rfl rfl (zFits_rm d n n n (Nat.le_refl n)) (Nat.le_of_ble_eq_true rfl) rfl k0 h3 ?_
    rintro _ σ5 k6 ⟨v4, rfl, h7, h8⟩
    change Zm _ _ _ _ _ _ 174 _ [iV v4] _
    exact r_zreturn dX10_trees_174 rfl h7 ⟨k6, _, rfl, h7, h8⟩
  · have h9 := h.2 c2
    refine r_iload_n dX10_trees_123 rfl ?_
    refine r_if_eq (t := 165) dX10_trees_124 rfl hx1  (fun c10 => ?_) (fun c11 => ?_)
    · have h12 := h9.1 c10
      refine r_aload_n dX10_trees_165 rfl ?_
      refine r_iconst dX10_trees_166 ?_
      refine r_aload_n dX10_trees_167 rfl ?_
      refine r_getI dX10_trees_168 kf_RX10_201 (zlt hn rfl) sh_73 (Or.inl rfl) rfl ?_
      refine n_callV (N := M_X10_fault) (As := [iV 1, iV (gI σ 73 24)]) (st := []) dX10_trees_171 mk_X10_fault km_RX10_229 kd_X10_fault rfl (zlt hn rfl) sh_73 (q := (RX10, TX10, 52)) rfl rfl (zFits_rm d n n n (Nat.le_refl n)) (Nat.le_of_ble_eq_true rfl) rfl k0 h12 ?_
      rintro _ σ14 k15 ⟨v13, rfl, h16, h17⟩
      change Zm _ _ _ _ _ _ 174 _ [iV v13] _
      exact r_zreturn dX10_trees_174 rfl h16 ⟨k15, _, rfl, h16, h17⟩
    · have h18 := h9.2 c11
      refine r_aload_n dX10_trees_127 rfl ?_
      refine r_dup dX10_trees_128 rfl ?_
      refine r_getI dX10_trees_129 kf_RX10_213 (zlt hn rfl) sh_73 (Or.inl rfl) rfl ?_
      refine r_iconst dX10_trees_132 ?_
      refine r_isub dX10_trees_133 ?_
      obtain ⟨h19, h20⟩ := h18
      refine r_putI dX10_trees_134 kf_RX10_213 (zlt hn rfl) sh_73 rfl (Or.inl rfl) ?_
      have k21 := zok_o (i := 26) (x := (gI σ 73 26) - 1) k0 sh_73 h19
      refine r_aload_n dX10_trees_137 rfl ?_
      refine r_aload_n dX10_trees_138 rfl ?_
      refine r_getP (a := 89) dX10_trees_139 kf_RX10_65 (zlt hn rfl) sh_73 rfl (k21.1 _ _ _ (zlt hn rfl) p_73_25) ?_
      refine r_aload_n dX10_trees_142 rfl ?_
      refine r_getI dX10_trees_143 kf_RX10_213 (zlt hn rfl) sh_73 (Or.inl rfl) (gI_same _ _ _ _) ?_
      obtain ⟨h22, h23⟩ := h20
      refine r_ialoadE dX10_trees_146 (zlt hn rfl) sh_89 h22.1 h22.2 (gI_c (by decide)) ?_
      refine r_putI dX10_trees_147 kf_RX10_216 (zlt hn rfl) sh_73 rfl (Or.inl rfl) ?_
      have k24 := zok_o (i := 27) (x := gI σ 89 (((gI σ 73 26) - 1).toNat)) k21 sh_73 (k0.2.1 _ _)
      refine r_aload_n dX10_trees_150 rfl ?_
      refine r_dup dX10_trees_151 rfl ?_
      refine r_getI dX10_trees_152 kf_RX10_201 (zlt hn rfl) sh_73 (Or.inl rfl) ((gI_f (by decide)).trans (gI_f (by decide))) ?_
      refine r_iconst dX10_trees_155 ?_
      refine r_iadd dX10_trees_156 ?_
      obtain ⟨h25, h26⟩ := h23
      refine r_putI dX10_trees_157 kf_RX10_201 (zlt hn rfl) sh_73 rfl (Or.inl rfl) ?_
      have k27 := zok_o (i := 24) (x := (gI σ 73 24) + 1) k24 sh_73 h25
      refine r_iconst dX10_trees_160 ?_
      refine r_istore_n dX10_trees_161 rfl rfl ?_
      refine r_goto (t := 175) dX10_trees_162 rfl ?_
      refine r_aload_n dX10_trees_175 rfl ?_
      refine r_getI dX10_trees_176 kf_RX10_213 (zlt hn rfl) sh_73 (Or.inl rfl) ((gI_f (by decide)).trans ((gI_f (by decide)).trans (gI_same _ _ _ _))) ?_
      refine r_if_gt (t := 27) dX10_trees_179 rfl h19  (fun c28 => ?_) (fun c29 => ?_)
      · have h30 := h26.1 c28
        exact r_mask [true, true, true, false] rfl (h30 hx1 (r32c rfl) k27)
      · have h31 := h26.2 c29
        refine r_aload_n dX10_trees_182 rfl ?_
        refine n_callV (N := M_X10_blanks) (As := []) (st := []) dX10_trees_183 mk_X10_blanks km_RX10_226 kd_X10_blanks rfl (zlt hn rfl) sh_73 (q := (RX10, TX10, 52)) rfl rfl (zFits_rm d n n n (Nat.le_refl n)) (Nat.le_of_ble_eq_true rfl) rfl k27 h31 ?_
        rintro _ σ33 k34 ⟨rfl, h36⟩
        change Zm _ _ _ _ _ _ 186 _ [] _
        refine r_aload_n dX10_trees_186 rfl ?_
        refine r_getI dX10_trees_187 kf_RX10_201 (zlt hn rfl) sh_73 (Or.inl rfl) rfl ?_
        refine r_aload_n dX10_trees_190 rfl ?_
        refine r_getI dX10_trees_191 kf_RX10_195 (zlt hn rfl) sh_73 (Or.inl rfl) rfl ?_
        refine r_icmp_eq (t := 209) dX10_trees_194 rfl (k34.2.1 _ _) (k34.2.1 _ _) (fun c37 => ?_) (fun c38 => ?_)
        · have h39 := h36.1 c37
          refine r_iconst dX10_trees_209 ?_
          refine r_goto (t := 214) dX10_trees_210 rfl ?_
          exact r_zreturn dX10_trees_214 rfl (Or.inr rfl) ⟨k34, _, rfl, (Or.inr rfl), h39⟩
        · have h40 := h36.2 c38
          refine r_aload_n dX10_trees_197 rfl ?_
          refine r_iconst dX10_trees_198 ?_
          refine r_aload_n dX10_trees_199 rfl ?_
          refine r_getI dX10_trees_200 kf_RX10_201 (zlt hn rfl) sh_73 (Or.inl rfl) rfl ?_
          refine n_callV (N := M_X10_fault) (As := [iV 1, iV (gI σ33 73 24)]) (st := []) dX10_trees_203 mk_X10_fault km_RX10_229 kd_X10_fault rfl (zlt hn rfl) sh_73 (q := (RX10, TX10, 52)) rfl rfl (zFits_rm d n n n (Nat.le_refl n)) (Nat.le_of_ble_eq_true rfl) rfl k34 h40 ?_
          rintro _ σ42 k43 ⟨v41, rfl, h44, h45⟩
          change Zm _ _ _ _ _ _ 206 _ [iV v41] _
          refine r_if_eq (t := 213) dX10_trees_206 rfl (r32_z h44)  (fun c46 => ?_) (fun c47 => ?_)
          · have h48 := h45.1 c46
            refine r_iconst dX10_trees_213 ?_
            exact r_zreturn dX10_trees_214 rfl (Or.inl rfl) ⟨k43, _, rfl, (Or.inl rfl), h48⟩
          · have h49 := h45.2 c47
            refine r_iconst dX10_trees_209 ?_
            refine r_goto (t := 214) dX10_trees_210 rfl ?_
            exact r_zreturn dX10_trees_214 rfl (Or.inr rfl) ⟨k43, _, rfl, (Or.inr rfl), h49⟩
/-! StoneRoomModel.aNode -/
theorem dX10_aNode_0 : decode M_X10_aNode.2.1 0 = .ok (.aload_n 0, 1) := by decide +kernel
theorem dX10_aNode_1 : decode M_X10_aNode.2.1 1 = .ok (.getfield 201, 3) := by decide +kernel
theorem dX10_aNode_4 : decode M_X10_aNode.2.1 4 = .ok (.istore_n 1, 1) := by decide +kernel
theorem dX10_aNode_5 : decode M_X10_aNode.2.1 5 = .ok (.aload_n 0, 1) := by decide +kernel
theorem dX10_aNode_6 : decode M_X10_aNode.2.1 6 = .ok (.getfield 33, 3) := by decide +kernel
theorem dX10_aNode_9 : decode M_X10_aNode.2.1 9 = .ok (.aload_n 0, 1) := by decide +kernel
theorem dX10_aNode_10 : decode M_X10_aNode.2.1 10 = .ok (.getfield 219, 3) := by decide +kernel
theorem dX10_aNode_13 : decode M_X10_aNode.2.1 13 = .ok (.iaload, 1) := by decide +kernel
theorem dX10_aNode_14 : decode M_X10_aNode.2.1 14 = .ok (.sipush 250, 3) := by decide +kernel
theorem dX10_aNode_17 : decode M_X10_aNode.2.1 17 = .ok (.if_icmp .ne 11, 3) := by decide +kernel
theorem dX10_aNode_20 : decode M_X10_aNode.2.1 20 = .ok (.aload_n 0, 1) := by decide +kernel
theorem dX10_aNode_21 : decode M_X10_aNode.2.1 21 = .ok (.bipush 6, 2) := by decide +kernel
theorem dX10_aNode_23 : decode M_X10_aNode.2.1 23 = .ok (.iload_n 1, 1) := by decide +kernel
theorem dX10_aNode_24 : decode M_X10_aNode.2.1 24 = .ok (.invokevirtual 229, 3) := by decide +kernel
theorem dX10_aNode_27 : decode M_X10_aNode.2.1 27 = .ok (.ireturn, 1) := by decide +kernel
theorem dX10_aNode_28 : decode M_X10_aNode.2.1 28 = .ok (.aload_n 0, 1) := by decide +kernel
theorem dX10_aNode_29 : decode M_X10_aNode.2.1 29 = .ok (.dup, 1) := by decide +kernel
theorem dX10_aNode_30 : decode M_X10_aNode.2.1 30 = .ok (.getfield 201, 3) := by decide +kernel
theorem dX10_aNode_33 : decode M_X10_aNode.2.1 33 = .ok (.iconst 1, 1) := by decide +kernel
theorem dX10_aNode_34 : decode M_X10_aNode.2.1 34 = .ok (.iadd, 1) := by decide +kernel
theorem dX10_aNode_35 : decode M_X10_aNode.2.1 35 = .ok (.putfield 201, 3) := by decide +kernel
theorem dX10_aNode_38 : decode M_X10_aNode.2.1 38 = .ok (.aload_n 0, 1) := by decide +kernel
theorem dX10_aNode_39 : decode M_X10_aNode.2.1 39 = .ok (.aload_n 0, 1) := by decide +kernel
theorem dX10_aNode_40 : decode M_X10_aNode.2.1 40 = .ok (.getfield 219, 3) := by decide +kernel
theorem dX10_aNode_43 : decode M_X10_aNode.2.1 43 = .ok (.aload_n 0, 1) := by decide +kernel
theorem dX10_aNode_44 : decode M_X10_aNode.2.1 44 = .ok (.getfield 216, 3) := by decide +kernel
theorem dX10_aNode_47 : decode M_X10_aNode.2.1 47 = .ok (.invokevirtual 125, 3) := by decide +kernel
theorem dX10_aNode_50 : decode M_X10_aNode.2.1 50 = .ok (.istore_n 2, 1) := by decide +kernel
theorem dX10_aNode_51 : decode M_X10_aNode.2.1 51 = .ok (.aload_n 0, 1) := by decide +kernel
theorem dX10_aNode_52 : decode M_X10_aNode.2.1 52 = .ok (.iconst 0, 1) := by decide +kernel
theorem dX10_aNode_53 : decode M_X10_aNode.2.1 53 = .ok (.putfield 235, 3) := by decide +kernel
theorem dX10_aNode_56 : decode M_X10_aNode.2.1 56 = .ok (.aload_n 0, 1) := by decide +kernel
theorem dX10_aNode_57 : decode M_X10_aNode.2.1 57 = .ok (.invokevirtual 226, 3) := by decide +kernel
theorem dX10_aNode_60 : decode M_X10_aNode.2.1 60 = .ok (.aload_n 0, 1) := by decide +kernel
theorem dX10_aNode_61 : decode M_X10_aNode.2.1 61 = .ok (.invokevirtual 204, 3) := by decide +kernel
theorem dX10_aNode_64 : decode M_X10_aNode.2.1 64 = .ok (.bipush 65, 2) := by decide +kernel
theorem dX10_aNode_66 : decode M_X10_aNode.2.1 66 = .ok (.if_icmp .lt 29, 3) := by decide +kernel
theorem dX10_aNode_69 : decode M_X10_aNode.2.1 69 = .ok (.aload_n 0, 1) := by decide +kernel
theorem dX10_aNode_70 : decode M_X10_aNode.2.1 70 = .ok (.invokevirtual 204, 3) := by decide +kernel
theorem dX10_aNode_73 : decode M_X10_aNode.2.1 73 = .ok (.bipush 90, 2) := by decide +kernel
theorem dX10_aNode_75 : decode M_X10_aNode.2.1 75 = .ok (.if_icmp .gt 20, 3) := by decide +kernel
theorem dX10_aNode_78 : decode M_X10_aNode.2.1 78 = .ok (.aload_n 0, 1) := by decide +kernel
theorem dX10_aNode_79 : decode M_X10_aNode.2.1 79 = .ok (.iload_n 2, 1) := by decide +kernel
theorem dX10_aNode_80 : decode M_X10_aNode.2.1 80 = .ok (.invokevirtual 238, 3) := by decide +kernel
theorem dX10_aNode_83 : decode M_X10_aNode.2.1 83 = .ok (.ifCond .ne 5, 3) := by decide +kernel
theorem dX10_aNode_86 : decode M_X10_aNode.2.1 86 = .ok (.iconst 0, 1) := by decide +kernel
theorem dX10_aNode_87 : decode M_X10_aNode.2.1 87 = .ok (.ireturn, 1) := by decide +kernel
theorem dX10_aNode_88 : decode M_X10_aNode.2.1 88 = .ok (.aload_n 0, 1) := by decide +kernel
theorem dX10_aNode_89 : decode M_X10_aNode.2.1 89 = .ok (.invokevirtual 226, 3) := by decide +kernel
theorem dX10_aNode_92 : decode M_X10_aNode.2.1 92 = .ok (.goto (-32), 3) := by decide +kernel
theorem dX10_aNode_95 : decode M_X10_aNode.2.1 95 = .ok (.aload_n 0, 1) := by decide +kernel
theorem dX10_aNode_96 : decode M_X10_aNode.2.1 96 = .ok (.iload_n 2, 1) := by decide +kernel
theorem dX10_aNode_97 : decode M_X10_aNode.2.1 97 = .ok (.putfield 216, 3) := by decide +kernel
theorem dX10_aNode_100 : decode M_X10_aNode.2.1 100 = .ok (.aload_n 0, 1) := by decide +kernel
theorem dX10_aNode_101 : decode M_X10_aNode.2.1 101 = .ok (.getfield 13, 3) := by decide +kernel
theorem dX10_aNode_104 : decode M_X10_aNode.2.1 104 = .ok (.iload_n 2, 1) := by decide +kernel
theorem dX10_aNode_105 : decode M_X10_aNode.2.1 105 = .ok (.iaload, 1) := by decide +kernel
theorem dX10_aNode_106 : decode M_X10_aNode.2.1 106 = .ok (.ifCond .eq 64, 3) := by decide +kernel
theorem dX10_aNode_109 : decode M_X10_aNode.2.1 109 = .ok (.aload_n 0, 1) := by decide +kernel
theorem dX10_aNode_110 : decode M_X10_aNode.2.1 110 = .ok (.getfield 19, 3) := by decide +kernel
theorem dX10_aNode_113 : decode M_X10_aNode.2.1 113 = .ok (.iload_n 2, 1) := by decide +kernel
theorem dX10_aNode_114 : decode M_X10_aNode.2.1 114 = .ok (.iaload, 1) := by decide +kernel
theorem dX10_aNode_115 : decode M_X10_aNode.2.1 115 = .ok (.iconst (-1), 1) := by decide +kernel
theorem dX10_aNode_116 : decode M_X10_aNode.2.1 116 = .ok (.if_icmp .eq 35, 3) := by decide +kernel
theorem dX10_aNode_119 : decode M_X10_aNode.2.1 119 = .ok (.aload_n 0, 1) := by decide +kernel
theorem dX10_aNode_120 : decode M_X10_aNode.2.1 120 = .ok (.aload_n 0, 1) := by decide +kernel
theorem dX10_aNode_121 : decode M_X10_aNode.2.1 121 = .ok (.getfield 7, 3) := by decide +kernel
theorem dX10_aNode_124 : decode M_X10_aNode.2.1 124 = .ok (.iload_n 2, 1) := by decide +kernel
theorem dX10_aNode_125 : decode M_X10_aNode.2.1 125 = .ok (.iaload, 1) := by decide +kernel
theorem dX10_aNode_126 : decode M_X10_aNode.2.1 126 = .ok (.aload_n 0, 1) := by decide +kernel
theorem dX10_aNode_127 : decode M_X10_aNode.2.1 127 = .ok (.getfield 19, 3) := by decide +kernel
theorem dX10_aNode_130 : decode M_X10_aNode.2.1 130 = .ok (.iload_n 2, 1) := by decide +kernel
theorem dX10_aNode_131 : decode M_X10_aNode.2.1 131 = .ok (.iaload, 1) := by decide +kernel
theorem dX10_aNode_132 : decode M_X10_aNode.2.1 132 = .ok (.aload_n 0, 1) := by decide +kernel
theorem dX10_aNode_133 : decode M_X10_aNode.2.1 133 = .ok (.getfield 16, 3) := by decide +kernel
theorem dX10_aNode_136 : decode M_X10_aNode.2.1 136 = .ok (.iload_n 2, 1) := by decide +kernel
theorem dX10_aNode_137 : decode M_X10_aNode.2.1 137 = .ok (.iaload, 1) := by decide +kernel
theorem dX10_aNode_138 : decode M_X10_aNode.2.1 138 = .ok (.invokevirtual 176, 3) := by decide +kernel
theorem dX10_aNode_141 : decode M_X10_aNode.2.1 141 = .ok (.ifCond .le 10, 3) := by decide +kernel
theorem dX10_aNode_144 : decode M_X10_aNode.2.1 144 = .ok (.aload_n 0, 1) := by decide +kernel
theorem dX10_aNode_145 : decode M_X10_aNode.2.1 145 = .ok (.iconst 4, 1) := by decide +kernel
theorem dX10_aNode_146 : decode M_X10_aNode.2.1 146 = .ok (.iload_n 1, 1) := by decide +kernel
theorem dX10_aNode_147 : decode M_X10_aNode.2.1 147 = .ok (.invokevirtual 229, 3) := by decide +kernel
theorem dX10_aNode_150 : decode M_X10_aNode.2.1 150 = .ok (.ireturn, 1) := by decide +kernel
theorem dX10_aNode_151 : decode M_X10_aNode.2.1 151 = .ok (.aload_n 0, 1) := by decide +kernel
theorem dX10_aNode_152 : decode M_X10_aNode.2.1 152 = .ok (.iload_n 2, 1) := by decide +kernel
theorem dX10_aNode_153 : decode M_X10_aNode.2.1 153 = .ok (.aload_n 0, 1) := by decide +kernel
theorem dX10_aNode_154 : decode M_X10_aNode.2.1 154 = .ok (.getfield 19, 3) := by decide +kernel
theorem dX10_aNode_157 : decode M_X10_aNode.2.1 157 = .ok (.iload_n 2, 1) := by decide +kernel
theorem dX10_aNode_158 : decode M_X10_aNode.2.1 158 = .ok (.iaload, 1) := by decide +kernel
theorem dX10_aNode_159 : decode M_X10_aNode.2.1 159 = .ok (.aload_n 0, 1) := by decide +kernel
theorem dX10_aNode_160 : decode M_X10_aNode.2.1 160 = .ok (.getfield 16, 3) := by decide +kernel
theorem dX10_aNode_163 : decode M_X10_aNode.2.1 163 = .ok (.iload_n 2, 1) := by decide +kernel
theorem dX10_aNode_164 : decode M_X10_aNode.2.1 164 = .ok (.iaload, 1) := by decide +kernel
theorem dX10_aNode_165 : decode M_X10_aNode.2.1 165 = .ok (.invokevirtual 192, 3) := by decide +kernel
theorem dX10_aNode_168 : decode M_X10_aNode.2.1 168 = .ok (.iconst 1, 1) := by decide +kernel
theorem dX10_aNode_169 : decode M_X10_aNode.2.1 169 = .ok (.ireturn, 1) := by decide +kernel
theorem dX10_aNode_170 : decode M_X10_aNode.2.1 170 = .ok (.aload_n 0, 1) := by decide +kernel
theorem dX10_aNode_171 : decode M_X10_aNode.2.1 171 = .ok (.aload_n 0, 1) := by decide +kernel
theorem dX10_aNode_172 : decode M_X10_aNode.2.1 172 = .ok (.getfield 219, 3) := by decide +kernel
theorem dX10_aNode_175 : decode M_X10_aNode.2.1 175 = .ok (.iload_n 2, 1) := by decide +kernel
theorem dX10_aNode_176 : decode M_X10_aNode.2.1 176 = .ok (.invokevirtual 129, 3) := by decide +kernel
theorem dX10_aNode_179 : decode M_X10_aNode.2.1 179 = .ok (.aload_n 0, 1) := by decide +kernel
theorem dX10_aNode_180 : decode M_X10_aNode.2.1 180 = .ok (.iload_n 2, 1) := by decide +kernel
theorem dX10_aNode_181 : decode M_X10_aNode.2.1 181 = .ok (.invokevirtual 133, 3) := by decide +kernel
theorem dX10_aNode_184 : decode M_X10_aNode.2.1 184 = .ok (.iconst 0, 1) := by decide +kernel
theorem dX10_aNode_185 : decode M_X10_aNode.2.1 185 = .ok (.istore_n 3, 1) := by decide +kernel
theorem dX10_aNode_186 : decode M_X10_aNode.2.1 186 = .ok (.iload_n 3, 1) := by decide +kernel
theorem dX10_aNode_187 : decode M_X10_aNode.2.1 187 = .ok (.aload_n 0, 1) := by decide +kernel
theorem dX10_aNode_188 : decode M_X10_aNode.2.1 188 = .ok (.getfield 139, 3) := by decide +kernel
theorem dX10_aNode_191 : decode M_X10_aNode.2.1 191 = .ok (.aload_n 0, 1) := by decide +kernel
theorem dX10_aNode_192 : decode M_X10_aNode.2.1 192 = .ok (.getfield 139, 3) := by decide +kernel
theorem dX10_aNode_195 : decode M_X10_aNode.2.1 195 = .ok (.imul, 1) := by decide +kernel
theorem dX10_aNode_196 : decode M_X10_aNode.2.1 196 = .ok (.if_icmp .ge 33, 3) := by decide +kernel
theorem dX10_aNode_199 : decode M_X10_aNode.2.1 199 = .ok (.aload_n 0, 1) := by decide +kernel
theorem dX10_aNode_200 : decode M_X10_aNode.2.1 200 = .ok (.getfield 46, 3) := by decide +kernel
theorem dX10_aNode_203 : decode M_X10_aNode.2.1 203 = .ok (.iload_n 3, 1) := by decide +kernel
theorem dX10_aNode_204 : decode M_X10_aNode.2.1 204 = .ok (.baload, 1) := by decide +kernel
theorem dX10_aNode_205 : decode M_X10_aNode.2.1 205 = .ok (.ifCond .eq 18, 3) := by decide +kernel
theorem dX10_aNode_208 : decode M_X10_aNode.2.1 208 = .ok (.aload_n 0, 1) := by decide +kernel
theorem dX10_aNode_209 : decode M_X10_aNode.2.1 209 = .ok (.iload_n 3, 1) := by decide +kernel
theorem dX10_aNode_210 : decode M_X10_aNode.2.1 210 = .ok (.invokevirtual 148, 3) := by decide +kernel
theorem dX10_aNode_213 : decode M_X10_aNode.2.1 213 = .ok (.ifCond .ne 10, 3) := by decide +kernel
theorem dX10_aNode_216 : decode M_X10_aNode.2.1 216 = .ok (.aload_n 0, 1) := by decide +kernel
theorem dX10_aNode_217 : decode M_X10_aNode.2.1 217 = .ok (.iconst 5, 1) := by decide +kernel
theorem dX10_aNode_218 : decode M_X10_aNode.2.1 218 = .ok (.iload_n 1, 1) := by decide +kernel
theorem dX10_aNode_219 : decode M_X10_aNode.2.1 219 = .ok (.invokevirtual 229, 3) := by decide +kernel
theorem dX10_aNode_222 : decode M_X10_aNode.2.1 222 = .ok (.ireturn, 1) := by decide +kernel
theorem dX10_aNode_223 : decode M_X10_aNode.2.1 223 = .ok (.iinc 3 1, 3) := by decide +kernel
theorem dX10_aNode_226 : decode M_X10_aNode.2.1 226 = .ok (.goto (-40), 3) := by decide +kernel
theorem dX10_aNode_229 : decode M_X10_aNode.2.1 229 = .ok (.iconst 1, 1) := by decide +kernel
theorem dX10_aNode_230 : decode M_X10_aNode.2.1 230 = .ok (.ireturn, 1) := by decide +kernel
def L_X10_aNode_60 (X : ZX) (d n : Nat) (P : Option Value → ZSto → Prop) (x1 : Int) (x2 : Int) (σ : ZSto) : Prop := R32 x1 → R32 x2 → ZOk n σ → Zn X M_X10_aNode d n P 60 [some (.ref (zB X + 73)), some (iV x1), some (iV x2), none] [] σ
def L_X10_aNode_95 (X : ZX) (d n : Nat) (P : Option Value → ZSto → Prop) (x1 : Int) (x2 : Int) (σ : ZSto) : Prop := R32 x1 → R32 x2 → ZOk n σ → Zn X M_X10_aNode d n P 95 [some (.ref (zB X + 73)), some (iV x1), some (iV x2), none] [] σ
def L_X10_aNode_186 (X : ZX) (d n : Nat) (P : Option Value → ZSto → Prop) (x1 : Int) (x3 : Int) (σ : ZSto) : Prop := R32 x1 → R32 x3 → ZOk n σ → Zn X M_X10_aNode d n P 186 [some (.ref (zB X + 73)), some (iV x1), none, some (iV x3)] [] σ
theorem w_X10_aNode {X : ZX} {d n : Nat} {P : Int → ZSto → Prop}  {σ : ZSto} (hn : 104 ≤ n)  
    (h : (∀ y1 : Int, y1 = gI σ 73 24 → (0 ≤ gI σ 73 28 ∧ gI σ 73 28 < 2) ∧ (¬ gI σ 81 ((gI σ 73 28).toNat) = 250 → R32 ((gI σ 73 24) + 1) ∧ ZkI X M_X10_comes d n [.ref (zB X + 73), iV (gI σ 73 28), iV (gI σ 73 27)] (sI σ 73 24 ((gI σ 73 24) + 1)) (fun v12 σ13 => ZkV X M_X10_blanks d n [.ref (zB X + 73)] (sI σ13 73 29 0) (fun σ19 => L_X10_aNode_60 X d n (zpZ P) y1 v12 σ19))) ∧ (gI σ 81 ((gI σ 73 28).toNat) = 250 → ZkZ X M_X10_fault d n [.ref (zB X + 73), iV 6, iV y1] σ (fun v24 σ25 => P v24 σ25)))) :
    ZkZ X M_X10_aNode (d + 1) n [.ref (zB X + 73)] σ P := by
  refine zk_of (ls := [some (.ref (zB X + 73)), none, none, none]) pl_RX10 (Nat.le_of_ble_eq_true rfl) rfl (fun k0 => ?_)
  unfold Zn
  refine r_aload_n dX10_aNode_0 rfl ?_
  refine r_getI dX10_aNode_1 kf_RX10_201 (zlt hn rfl) sh_73 (Or.inl rfl) rfl ?_
  refine r_name (fun y1 e2 => ?_)
  have h3 := h y1 e2
  refine r_istore_n dX10_aNode_4 rfl rfl ?_
  refine r_aload_n dX10_aNode_5 rfl ?_
  refine r_getP (a := 81) dX10_aNode_6 kf_RX10_33 (zlt hn rfl) sh_73 rfl (k0.1 _ _ _ (zlt hn rfl) p_73_7) ?_
  refine r_aload_n dX10_aNode_9 rfl ?_
  refine r_getI dX10_aNode_10 kf_RX10_219 (zlt hn rfl) sh_73 (Or.inl rfl) rfl ?_
  obtain ⟨h4, h5⟩ := h3
  refine r_ialoadE dX10_aNode_13 (zlt hn rfl) sh_81 h4.1 h4.2 rfl ?_
  refine r_sipush dX10_aNode_14 rfl ?_
  refine r_icmp_ne (t := 28) dX10_aNode_17 rfl (k0.2.1 _ _) (r32c rfl) (fun c6 => ?_) (fun c7 => ?_)
  · have h8 := h5.1 c6
    refine r_aload_n dX10_aNode_28 rfl ?_
    refine r_dup dX10_aNode_29 rfl ?_
    refine r_getI dX10_aNode_30 kf_RX10_201 (zlt hn rfl) sh_73 (Or.inl rfl) rfl ?_
    refine r_iconst dX10_aNode_33 ?_
    refine r_iadd dX10_aNode_34 ?_
    obtain ⟨h9, h10⟩ := h8
    refine r_putI dX10_aNode_35 kf_RX10_201 (zlt hn rfl) sh_73 rfl (Or.inl rfl) ?_
    have k11 := zok_o (i := 24) (x := (gI σ 73 24) + 1) k0 sh_73 h9
    refine r_aload_n dX10_aNode_38 rfl ?_
    refine r_aload_n dX10_aNode_39 rfl ?_
    refine r_getI dX10_aNode_40 kf_RX10_219 (zlt hn rfl) sh_73 (Or.inl rfl) (gI_f (by decide)) ?_
    refine r_aload_n dX10_aNode_43 rfl ?_
    refine r_getI dX10_aNode_44 kf_RX10_216 (zlt hn rfl) sh_73 (Or.inl rfl) (gI_f (by decide)) ?_
    refine n_callV (N := M_X10_comes) (As := [iV (gI σ 73 28), iV (gI σ 73 27)]) (st := []) dX10_aNode_47 mk_X10_comes km_RX10_125 kd_X10_comes rfl (zlt hn rfl) sh_73 (q := (RX10, TX10, 52)) rfl rfl (zFits_rm d n n n (Nat.le_refl n)) (Nat.le_of_ble_eq_true rfl) rfl k11 h10 ?_
    rintro _ σ13 k14 ⟨v12, rfl, h15, h16⟩
    change Zm _ _ _ _ _ _ 50 _ [iV v12] _
    refine r_istore_n dX10_aNode_50 rfl rfl ?_
    refine r_aload_n dX10_aNode_51 rfl ?_
    refine r_iconst dX10_aNode_52 ?_
    refine r_putI dX10_aNode_53 kf_RX10_235 (zlt hn rfl) sh_73 rfl (Or.inl rfl) ?_
    have k17 := zok_o (i := 29) (x := 0) k14 sh_73 (r32c rfl)
    refine r_aload_n dX10_aNode_56 rfl ?_
    refine n_callV (N := M_X10_blanks) (As := []) (st := []) dX10_aNode_57 mk_X10_blanks km_RX10_226 kd_X10_blanks rfl (zlt hn rfl) sh_73 (q := (RX10, TX10, 52)) rfl rfl (zFits_rm d n n n (Nat.le_refl n)) (Nat.le_of_ble_eq_true rfl) rfl k17 h16 ?_
    rintro _ σ19 k20 ⟨rfl, h22⟩
    change Zm _ _ _ _ _ _ 60 _ [] _
    exact r_mask [true, true, true, false] rfl (h22 (by rw [e2]; exact (k0.2.1 _ _)) h15 k20)
  · have h23 := h5.2 c7
    refine r_aload_n dX10_aNode_20 rfl ?_
    refine r_bipush dX10_aNode_21 rfl ?_
    refine r_iload_n dX10_aNode_23 rfl ?_
    refine n_callV (N := M_X10_fault) (As := [iV 6, iV y1]) (st := []) dX10_aNode_24 mk_X10_fault km_RX10_229 kd_X10_fault rfl (zlt hn rfl) sh_73 (q := (RX10, TX10, 52)) rfl rfl (zFits_rm d n n n (Nat.le_refl n)) (Nat.le_of_ble_eq_true rfl) rfl k0 h23 ?_
    rintro _ σ25 k26 ⟨v24, rfl, h27, h28⟩
    change Zm _ _ _ _ _ _ 27 _ [iV v24] _
    exact r_zreturn dX10_aNode_27 rfl h27 ⟨k26, _, rfl, h27, h28⟩
theorem b_X10_aNode_60 {X : ZX} {d n : Nat} {P : Int → ZSto → Prop} {x1 : Int} {x2 : Int} {σ : ZSto} (hn : 104 ≤ n) 
    (h : ZkI X M_X10_see d n [.ref (zB X + 73)] σ (fun v1 σ2 => (v1 < 65 → L_X10_aNode_95 X d n (zpZ P) x1 x2 σ2) ∧ (¬ (v1 < 65) → ZkI X M_X10_see d n [.ref (zB X + 73)] σ2 (fun v10 σ11 => (90 < v10 → L_X10_aNode_95 X d n (zpZ P) x1 x2 σ11) ∧ (¬ (90 < v10) → ZkZ X M_X10_property d n [.ref (zB X + 73), iV x2] σ11 (fun v19 σ20 => (¬ v19 = 0 → ZkV X M_X10_blanks d n [.ref (zB X + 73)] σ20 (fun σ28 => L_X10_aNode_60 X d n (zpZ P) x1 x2 σ28)) ∧ (v19 = 0 → P 0 σ20))))))) :
    L_X10_aNode_60 X d n (zpZ P) x1 x2 σ := by
  intro hx1 hx2 k0
  unfold Zn
  refine r_aload_n dX10_aNode_60 rfl ?_
  refine n_callV (N := M_X10_see) (As := []) (st := []) dX10_aNode_61 mk_X10_see km_RX10_204 kd_X10_see rfl (zlt hn rfl) sh_73 (q := (RX10, TX10, 52)) rfl rfl (zFits_rm d n n n (Nat.le_refl n)) (Nat.le_of_ble_eq_true rfl) rfl k0 h ?_
  rintro _ σ2 k3 ⟨v1, rfl, h4, h5⟩
  change Zm _ _ _ _ _ _ 64 _ [iV v1] _
  refine r_bipush dX10_aNode_64 rfl ?_
  refine r_icmp_lt (t := 95) dX10_aNode_66 rfl h4 (r32c rfl) (fun c6 => ?_) (fun c7 => ?_)
  · have h8 := h5.1 c6
    exact r_mask [true, true, true, false] rfl (h8 hx1 hx2 k3)
  · have h9 := h5.2 c7
    refine r_aload_n dX10_aNode_69 rfl ?_
    refine n_callV (N := M_X10_see) (As := []) (st := []) dX10_aNode_70 mk_X10_see km_RX10_204 kd_X10_see rfl (zlt hn rfl) sh_73 (q := (RX10, TX10, 52)) rfl rfl (zFits_rm d n n n (Nat.le_refl n)) (Nat.le_of_ble_eq_true rfl) rfl k3 h9 ?_
    rintro _ σ11 k12 ⟨v10, rfl, h13, h14⟩
    change Zm _ _ _ _ _ _ 73 _ [iV v10] _
    refine r_bipush dX10_aNode_73 rfl ?_
    refine r_icmp_gt (t := 95) dX10_aNode_75 rfl h13 (r32c rfl) (fun c15 => ?_) (fun c16 => ?_)
    · have h17 := h14.1 c15
      exact r_mask [true, true, true, false] rfl (h17 hx1 hx2 k12)
    · have h18 := h14.2 c16
      refine r_aload_n dX10_aNode_78 rfl ?_
      refine r_iload_n dX10_aNode_79 rfl ?_
      refine n_callV (N := M_X10_property) (As := [iV x2]) (st := []) dX10_aNode_80 mk_X10_property km_RX10_238 kd_X10_property rfl (zlt hn rfl) sh_73 (q := (RX10, TX10, 52)) rfl rfl (zFits_rm d n n n (Nat.le_refl n)) (Nat.le_of_ble_eq_true rfl) rfl k12 h18 ?_
      rintro _ σ20 k21 ⟨v19, rfl, h22, h23⟩
      change Zm _ _ _ _ _ _ 83 _ [iV v19] _
      refine r_if_ne (t := 88) dX10_aNode_83 rfl (r32_z h22)  (fun c24 => ?_) (fun c25 => ?_)
      · have h26 := h23.1 c24
        refine r_aload_n dX10_aNode_88 rfl ?_
        refine n_callV (N := M_X10_blanks) (As := []) (st := []) dX10_aNode_89 mk_X10_blanks km_RX10_226 kd_X10_blanks rfl (zlt hn rfl) sh_73 (q := (RX10, TX10, 52)) rfl rfl (zFits_rm d n n n (Nat.le_refl n)) (Nat.le_of_ble_eq_true rfl) rfl k21 h26 ?_
        rintro _ σ28 k29 ⟨rfl, h31⟩
        change Zm _ _ _ _ _ _ 92 _ [] _
        refine r_goto (t := 60) dX10_aNode_92 rfl ?_
        exact r_mask [true, true, true, false] rfl (h31 hx1 hx2 k29)
      · have h32 := h23.2 c25
        refine r_iconst dX10_aNode_86 ?_
        exact r_zreturn dX10_aNode_87 rfl (Or.inl rfl) ⟨k21, _, rfl, (Or.inl rfl), h32⟩
theorem b_X10_aNode_95 {X : ZX} {d n : Nat} {P : Int → ZSto → Prop} {x1 : Int} {x2 : Int} {σ : ZSto} (hn : 104 ≤ n) 
    (h : (0 ≤ x2 ∧ x2 < 500) ∧ (gI σ 75 x2.toNat = 0 → ZkV X M_X10_settles d n [.ref (zB X + 73), iV (gI σ 73 28), iV x2] (sI σ 73 27 x2) (fun σ8 => ZkV X M_X10_load d n [.ref (zB X + 73), iV x2] σ8 (fun σ13 => L_X10_aNode_186 X d n (zpZ P) x1 0 σ13))) ∧ (¬ (gI σ 75 x2.toNat = 0) → (gI σ 77 x2.toNat = (-1) → ZkV X M_X10_moves d n [.ref (zB X + 73), iV x2, iV (gI σ 77 x2.toNat), iV (gI σ 76 x2.toNat)] (sI σ 73 27 x2) (fun σ22 => P 1 σ22)) ∧ (¬ (gI σ 77 x2.toNat = (-1)) → ZkI X M_X10_why d n [.ref (zB X + 73), iV (gI σ 74 x2.toNat), iV (gI σ 77 x2.toNat), iV (gI σ 76 x2.toNat)] (sI σ 73 27 x2) (fun v27 σ28 => (v27 ≤ 0 → ZkV X M_X10_moves d n [.ref (zB X + 73), iV x2, iV (gI σ28 77 x2.toNat), iV (gI σ28 76 x2.toNat)] σ28 (fun σ36 => P 1 σ36)) ∧ (¬ (v27 ≤ 0) → ZkZ X M_X10_fault d n [.ref (zB X + 73), iV 4, iV x1] σ28 (fun v41 σ42 => P v41 σ42)))))) :
    L_X10_aNode_95 X d n (zpZ P) x1 x2 σ := by
  intro hx1 hx2 k0
  unfold Zn
  refine r_aload_n dX10_aNode_95 rfl ?_
  refine r_iload_n dX10_aNode_96 rfl ?_
  refine r_putI dX10_aNode_97 kf_RX10_216 (zlt hn rfl) sh_73 rfl (Or.inl rfl) ?_
  have k1 := zok_o (i := 27) (x := x2) k0 sh_73 hx2
  refine r_aload_n dX10_aNode_100 rfl ?_
  refine r_getP (a := 75) dX10_aNode_101 kf_RX10_13 (zlt hn rfl) sh_73 rfl (k1.1 _ _ _ (zlt hn rfl) p_73_1) ?_
  refine r_iload_n dX10_aNode_104 rfl ?_
  obtain ⟨h2, h3⟩ := h
  refine r_ialoadE dX10_aNode_105 (zlt hn rfl) sh_75 h2.1 h2.2 (gI_c (by decide)) ?_
  refine r_if_eq (t := 170) dX10_aNode_106 rfl (k0.2.1 _ _)  (fun c4 => ?_) (fun c5 => ?_)
  · have h6 := h3.1 c4
    refine r_aload_n dX10_aNode_170 rfl ?_
    refine r_aload_n dX10_aNode_171 rfl ?_
    refine r_getI dX10_aNode_172 kf_RX10_219 (zlt hn rfl) sh_73 (Or.inl rfl) (gI_f (by decide)) ?_
    refine r_iload_n dX10_aNode_175 rfl ?_
    refine n_callV (N := M_X10_settles) (As := [iV (gI σ 73 28), iV x2]) (st := []) dX10_aNode_176 mk_X10_settles km_RX10_129 kd_X10_settles rfl (zlt hn rfl) sh_73 (q := (RX10, TX10, 52)) rfl rfl (zFits_rm d n n n (Nat.le_refl n)) (Nat.le_of_ble_eq_true rfl) rfl k1 h6 ?_
    rintro _ σ8 k9 ⟨rfl, h11⟩
    change Zm _ _ _ _ _ _ 179 _ [] _
    refine r_aload_n dX10_aNode_179 rfl ?_
    refine r_iload_n dX10_aNode_180 rfl ?_
    refine n_callV (N := M_X10_load) (As := [iV x2]) (st := []) dX10_aNode_181 mk_X10_load km_RX10_133 kd_X10_load rfl (zlt hn rfl) sh_73 (q := (RX10, TX10, 52)) rfl rfl (zFits_rm d n n n (Nat.le_refl n)) (Nat.le_of_ble_eq_true rfl) rfl k9 h11 ?_
    rintro _ σ13 k14 ⟨rfl, h16⟩
    change Zm _ _ _ _ _ _ 184 _ [] _
    refine r_iconst dX10_aNode_184 ?_
    refine r_istore_n dX10_aNode_185 rfl rfl ?_
    exact r_mask [true, true, false, true] rfl (h16 hx1 (r32c rfl) k14)
  · have h17 := h3.2 c5
    refine r_aload_n dX10_aNode_109 rfl ?_
    refine r_getP (a := 77) dX10_aNode_110 kf_RX10_19 (zlt hn rfl) sh_73 rfl (k1.1 _ _ _ (zlt hn rfl) p_73_3) ?_
    refine r_iload_n dX10_aNode_113 rfl ?_
    refine r_ialoadE dX10_aNode_114 (zlt hn rfl) sh_77 h2.1 h2.2 (gI_c (by decide)) ?_
    refine r_iconst dX10_aNode_115 ?_
    refine r_icmp_eq (t := 151) dX10_aNode_116 rfl (k0.2.1 _ _) (r32c rfl) (fun c18 => ?_) (fun c19 => ?_)
    · have h20 := h17.1 c18
      refine r_aload_n dX10_aNode_151 rfl ?_
      refine r_iload_n dX10_aNode_152 rfl ?_
      refine r_aload_n dX10_aNode_153 rfl ?_
      refine r_getP (a := 77) dX10_aNode_154 kf_RX10_19 (zlt hn rfl) sh_73 rfl (k1.1 _ _ _ (zlt hn rfl) p_73_3) ?_
      refine r_iload_n dX10_aNode_157 rfl ?_
      refine r_ialoadE dX10_aNode_158 (zlt hn rfl) sh_77 h2.1 h2.2 (gI_c (by decide)) ?_
      refine r_aload_n dX10_aNode_159 rfl ?_
      refine r_getP (a := 76) dX10_aNode_160 kf_RX10_16 (zlt hn rfl) sh_73 rfl (k1.1 _ _ _ (zlt hn rfl) p_73_2) ?_
      refine r_iload_n dX10_aNode_163 rfl ?_
      refine r_ialoadE dX10_aNode_164 (zlt hn rfl) sh_76 h2.1 h2.2 (gI_c (by decide)) ?_
      refine n_callV (N := M_X10_moves) (As := [iV x2, iV (gI σ 77 x2.toNat), iV (gI σ 76 x2.toNat)]) (st := []) dX10_aNode_165 mk_X10_moves km_RX10_192 kd_X10_moves rfl (zlt hn rfl) sh_73 (q := (RX10, TX10, 52)) rfl rfl (zFits_rm d n n n (Nat.le_refl n)) (Nat.le_of_ble_eq_true rfl) rfl k1 h20 ?_
      rintro _ σ22 k23 ⟨rfl, h25⟩
      change Zm _ _ _ _ _ _ 168 _ [] _
      refine r_iconst dX10_aNode_168 ?_
      exact r_zreturn dX10_aNode_169 rfl (Or.inr rfl) ⟨k23, _, rfl, (Or.inr rfl), h25⟩
    · have h26 := h17.2 c19
      refine r_aload_n dX10_aNode_119 rfl ?_
      refine r_aload_n dX10_aNode_120 rfl ?_
      refine r_getP (a := 74) dX10_aNode_121 kf_RX10_7 (zlt hn rfl) sh_73 rfl (k1.1 _ _ _ (zlt hn rfl) p_73_0) ?_
      refine r_iload_n dX10_aNode_124 rfl ?_
      refine r_ialoadE dX10_aNode_125 (zlt hn rfl) sh_74 h2.1 h2.2 (gI_c (by decide)) ?_
      refine r_aload_n dX10_aNode_126 rfl ?_
      refine r_getP (a := 77) dX10_aNode_127 kf_RX10_19 (zlt hn rfl) sh_73 rfl (k1.1 _ _ _ (zlt hn rfl) p_73_3) ?_
      refine r_iload_n dX10_aNode_130 rfl ?_
      refine r_ialoadE dX10_aNode_131 (zlt hn rfl) sh_77 h2.1 h2.2 (gI_c (by decide)) ?_
      refine r_aload_n dX10_aNode_132 rfl ?_
      refine r_getP (a := 76) dX10_aNode_133 kf_RX10_16 (zlt hn rfl) sh_73 rfl (k1.1 _ _ _ (zlt hn rfl) p_73_2) ?_
      refine r_iload_n dX10_aNode_136 rfl ?_
      refine r_ialoadE dX10_aNode_137 (zlt hn rfl) sh_76 h2.1 h2.2 (gI_c (by decide)) ?_
      refine n_callV (N := M_X10_why) (As := [iV (gI σ 74 x2.toNat), iV (gI σ 77 x2.toNat), iV (gI σ 76 x2.toNat)]) (st := []) dX10_aNode_138 mk_X10_why km_RX10_176 kd_X10_why rfl (zlt hn rfl) sh_73 (q := (RX10, TX10, 52)) rfl rfl (zFits_rm d n n n (Nat.le_refl n)) (Nat.le_of_ble_eq_true rfl) rfl k1 h26 ?_
      rintro _ σ28 k29 ⟨v27, rfl, h30, h31⟩
      change Zm _ _ _ _ _ _ 141 _ [iV v27] _
      refine r_if_le (t := 151) dX10_aNode_141 rfl h30  (fun c32 => ?_) (fun c33 => ?_)
      · have h34 := h31.1 c32
        refine r_aload_n dX10_aNode_151 rfl ?_
        refine r_iload_n dX10_aNode_152 rfl ?_
        refine r_aload_n dX10_aNode_153 rfl ?_
        refine r_getP (a := 77) dX10_aNode_154 kf_RX10_19 (zlt hn rfl) sh_73 rfl (k29.1 _ _ _ (zlt hn rfl) p_73_3) ?_
        refine r_iload_n dX10_aNode_157 rfl ?_
        refine r_ialoadE dX10_aNode_158 (zlt hn rfl) sh_77 h2.1 h2.2 rfl ?_
        refine r_aload_n dX10_aNode_159 rfl ?_
        refine r_getP (a := 76) dX10_aNode_160 kf_RX10_16 (zlt hn rfl) sh_73 rfl (k29.1 _ _ _ (zlt hn rfl) p_73_2) ?_
        refine r_iload_n dX10_aNode_163 rfl ?_
        refine r_ialoadE dX10_aNode_164 (zlt hn rfl) sh_76 h2.1 h2.2 rfl ?_
        refine n_callV (N := M_X10_moves) (As := [iV x2, iV (gI σ28 77 x2.toNat), iV (gI σ28 76 x2.toNat)]) (st := []) dX10_aNode_165 mk_X10_moves km_RX10_192 kd_X10_moves rfl (zlt hn rfl) sh_73 (q := (RX10, TX10, 52)) rfl rfl (zFits_rm d n n n (Nat.le_refl n)) (Nat.le_of_ble_eq_true rfl) rfl k29 h34 ?_
        rintro _ σ36 k37 ⟨rfl, h39⟩
        change Zm _ _ _ _ _ _ 168 _ [] _
        refine r_iconst dX10_aNode_168 ?_
        exact r_zreturn dX10_aNode_169 rfl (Or.inr rfl) ⟨k37, _, rfl, (Or.inr rfl), h39⟩
      · have h40 := h31.2 c33
        refine r_aload_n dX10_aNode_144 rfl ?_
        refine r_iconst dX10_aNode_145 ?_
        refine r_iload_n dX10_aNode_146 rfl ?_
        refine n_callV (N := M_X10_fault) (As := [iV 4, iV x1]) (st := []) dX10_aNode_147 mk_X10_fault km_RX10_229 kd_X10_fault rfl (zlt hn rfl) sh_73 (q := (RX10, TX10, 52)) rfl rfl (zFits_rm d n n n (Nat.le_refl n)) (Nat.le_of_ble_eq_true rfl) rfl k29 h40 ?_
        rintro _ σ42 k43 ⟨v41, rfl, h44, h45⟩
        change Zm _ _ _ _ _ _ 150 _ [iV v41] _
        exact r_zreturn dX10_aNode_150 rfl h44 ⟨k43, _, rfl, h44, h45⟩
theorem b_X10_aNode_186 {X : ZX} {d n : Nat} {P : Int → ZSto → Prop} {x1 : Int} {x3 : Int} {σ : ZSto} (hn : 104 ≤ n) 
    (h : R32 ((gI σ 73 13) * (gI σ 73 13)) ∧ ((gI σ 73 13) * (gI σ 73 13) ≤ x3 → P 1 σ) ∧ (¬ ((gI σ 73 13) * (gI σ 73 13) ≤ x3) → (0 ≤ x3 ∧ x3 < 81) ∧ (gI σ 84 x3.toNat = 0 → R32 (x3 + 1) ∧ L_X10_aNode_186 X d n (zpZ P) x1 (x3 + 1) σ) ∧ (¬ (gI σ 84 x3.toNat = 0) → ZkI X M_X10_flood d n [.ref (zB X + 73), iV x3] σ (fun v15 σ16 => (¬ v15 = 0 → R32 (x3 + 1) ∧ L_X10_aNode_186 X d n (zpZ P) x1 (x3 + 1) σ16) ∧ (v15 = 0 → ZkZ X M_X10_fault d n [.ref (zB X + 73), iV 5, iV x1] σ16 (fun v26 σ27 => P v26 σ27)))))) :
    L_X10_aNode_186 X d n (zpZ P) x1 x3 σ := by
  intro hx1 hx3 k0
  unfold Zn
  refine r_iload_n dX10_aNode_186 rfl ?_
  refine r_aload_n dX10_aNode_187 rfl ?_
  refine r_getI dX10_aNode_188 kf_RX10_139 (zlt hn rfl) sh_73 (Or.inl rfl) rfl ?_
  refine r_aload_n dX10_aNode_191 rfl ?_
  refine r_getI dX10_aNode_192 kf_RX10_139 (zlt hn rfl) sh_73 (Or.inl rfl) rfl ?_
  refine r_imul dX10_aNode_195 ?_
  obtain ⟨h1, h2⟩ := h
  refine r_icmp_ge (t := 229) dX10_aNode_196 rfl hx3 h1 (fun c3 => ?_) (fun c4 => ?_)
  · have h5 := h2.1 c3
    refine r_iconst dX10_aNode_229 ?_
    exact r_zreturn dX10_aNode_230 rfl (Or.inr rfl) ⟨k0, _, rfl, (Or.inr rfl), h5⟩
  · have h6 := h2.2 c4
    refine r_aload_n dX10_aNode_199 rfl ?_
    refine r_getP (a := 84) dX10_aNode_200 kf_RX10_46 (zlt hn rfl) sh_73 rfl (k0.1 _ _ _ (zlt hn rfl) p_73_14) ?_
    refine r_iload_n dX10_aNode_203 rfl ?_
    obtain ⟨h7, h8⟩ := h6
    refine r_baloadE dX10_aNode_204 (zlt hn rfl) sh_84 h7.1 h7.2 rfl ?_
    refine r_if_eq (t := 223) dX10_aNode_205 rfl (k0.2.1 _ _)  (fun c9 => ?_) (fun c10 => ?_)
    · have h11 := h8.1 c9
      refine r_iinc dX10_aNode_223 rfl rfl rfl ?_
      refine r_goto (t := 186) dX10_aNode_226 rfl ?_
      obtain ⟨h12, h13⟩ := h11
      exact r_mask [true, true, false, true] rfl (h13 hx1 h12 k0)
    · have h14 := h8.2 c10
      refine r_aload_n dX10_aNode_208 rfl ?_
      refine r_iload_n dX10_aNode_209 rfl ?_
      refine n_callV (N := M_X10_flood) (As := [iV x3]) (st := []) dX10_aNode_210 mk_X10_flood km_RX10_148 kd_X10_flood rfl (zlt hn rfl) sh_73 (q := (RX10, TX10, 52)) rfl rfl (zFits_rm d n n n (Nat.le_refl n)) (Nat.le_of_ble_eq_true rfl) rfl k0 h14 ?_
      rintro _ σ16 k17 ⟨v15, rfl, h18, h19⟩
      change Zm _ _ _ _ _ _ 213 _ [iV v15] _
      refine r_if_ne (t := 223) dX10_aNode_213 rfl h18  (fun c20 => ?_) (fun c21 => ?_)
      · have h22 := h19.1 c20
        refine r_iinc dX10_aNode_223 rfl rfl rfl ?_
        refine r_goto (t := 186) dX10_aNode_226 rfl ?_
        obtain ⟨h23, h24⟩ := h22
        exact r_mask [true, true, false, true] rfl (h24 hx1 h23 k17)
      · have h25 := h19.2 c21
        refine r_aload_n dX10_aNode_216 rfl ?_
        refine r_iconst dX10_aNode_217 ?_
        refine r_iload_n dX10_aNode_218 rfl ?_
        refine n_callV (N := M_X10_fault) (As := [iV 5, iV x1]) (st := []) dX10_aNode_219 mk_X10_fault km_RX10_229 kd_X10_fault rfl (zlt hn rfl) sh_73 (q := (RX10, TX10, 52)) rfl rfl (zFits_rm d n n n (Nat.le_refl n)) (Nat.le_of_ble_eq_true rfl) rfl k17 h25 ?_
        rintro _ σ27 k28 ⟨v26, rfl, h29, h30⟩
        change Zm _ _ _ _ _ _ 222 _ [iV v26] _
        exact r_zreturn dX10_aNode_222 rfl h29 ⟨k28, _, rfl, h29, h30⟩
/-! StoneRoomModel.isName -/
theorem dX10_isName_0 : decode M_X10_isName.2.1 0 = .ok (.aload_n 0, 1) := by decide +kernel
theorem dX10_isName_1 : decode M_X10_isName.2.1 1 = .ok (.getfield 201, 3) := by decide +kernel
theorem dX10_isName_4 : decode M_X10_isName.2.1 4 = .ok (.iload_n 1, 1) := by decide +kernel
theorem dX10_isName_5 : decode M_X10_isName.2.1 5 = .ok (.isub, 1) := by decide +kernel
theorem dX10_isName_6 : decode M_X10_isName.2.1 6 = .ok (.iload_n 3, 1) := by decide +kernel
theorem dX10_isName_7 : decode M_X10_isName.2.1 7 = .ok (.ifCond .ne 7, 3) := by decide +kernel
theorem dX10_isName_10 : decode M_X10_isName.2.1 10 = .ok (.iconst 1, 1) := by decide +kernel
theorem dX10_isName_11 : decode M_X10_isName.2.1 11 = .ok (.goto 4, 3) := by decide +kernel
theorem dX10_isName_14 : decode M_X10_isName.2.1 14 = .ok (.iconst 2, 1) := by decide +kernel
theorem dX10_isName_15 : decode M_X10_isName.2.1 15 = .ok (.if_icmp .ne 33, 3) := by decide +kernel
theorem dX10_isName_18 : decode M_X10_isName.2.1 18 = .ok (.aload_n 0, 1) := by decide +kernel
theorem dX10_isName_19 : decode M_X10_isName.2.1 19 = .ok (.getfield 59, 3) := by decide +kernel
theorem dX10_isName_22 : decode M_X10_isName.2.1 22 = .ok (.iload_n 1, 1) := by decide +kernel
theorem dX10_isName_23 : decode M_X10_isName.2.1 23 = .ok (.baload, 1) := by decide +kernel
theorem dX10_isName_24 : decode M_X10_isName.2.1 24 = .ok (.iload_n 2, 1) := by decide +kernel
theorem dX10_isName_25 : decode M_X10_isName.2.1 25 = .ok (.if_icmp .ne 23, 3) := by decide +kernel
theorem dX10_isName_28 : decode M_X10_isName.2.1 28 = .ok (.iload_n 3, 1) := by decide +kernel
theorem dX10_isName_29 : decode M_X10_isName.2.1 29 = .ok (.ifCond .eq 15, 3) := by decide +kernel
theorem dX10_isName_32 : decode M_X10_isName.2.1 32 = .ok (.aload_n 0, 1) := by decide +kernel
theorem dX10_isName_33 : decode M_X10_isName.2.1 33 = .ok (.getfield 59, 3) := by decide +kernel
theorem dX10_isName_36 : decode M_X10_isName.2.1 36 = .ok (.iload_n 1, 1) := by decide +kernel
theorem dX10_isName_37 : decode M_X10_isName.2.1 37 = .ok (.iconst 1, 1) := by decide +kernel
theorem dX10_isName_38 : decode M_X10_isName.2.1 38 = .ok (.iadd, 1) := by decide +kernel
theorem dX10_isName_39 : decode M_X10_isName.2.1 39 = .ok (.baload, 1) := by decide +kernel
theorem dX10_isName_40 : decode M_X10_isName.2.1 40 = .ok (.iload_n 3, 1) := by decide +kernel
theorem dX10_isName_41 : decode M_X10_isName.2.1 41 = .ok (.if_icmp .ne 7, 3) := by decide +kernel
theorem dX10_isName_44 : decode M_X10_isName.2.1 44 = .ok (.iconst 1, 1) := by decide +kernel
theorem dX10_isName_45 : decode M_X10_isName.2.1 45 = .ok (.goto 4, 3) := by decide +kernel
theorem dX10_isName_48 : decode M_X10_isName.2.1 48 = .ok (.iconst 0, 1) := by decide +kernel
theorem dX10_isName_49 : decode M_X10_isName.2.1 49 = .ok (.ireturn, 1) := by decide +kernel
def L_X10_isName_15 (X : ZX) (d n : Nat) (P : Option Value → ZSto → Prop) (x1 : Int) (x2 : Int) (x3 : Int) (x20 : Int) (x21 : Int) (σ : ZSto) : Prop := R32 x1 → R32 x2 → R32 x3 → R32 x20 → R32 x21 → ZOk n σ → Zn X M_X10_isName d n P 15 [some (.ref (zB X + 73)), some (iV x1), some (iV x2), some (iV x3)] [iV x21, iV x20] σ
theorem w_X10_isName {X : ZX} {d n : Nat} {P : Int → ZSto → Prop} {x1 : Int} {x2 : Int} {x3 : Int} {σ : ZSto} (hn : 104 ≤ n)  (hx1 : R32 x1) (hx2 : R32 x2) (hx3 : R32 x3)
    (h : (¬ x3 = 0 → R32 ((gI σ 73 24) - x1) ∧ L_X10_isName_15 X d n (zpZ P) x1 x2 x3 ((gI σ 73 24) - x1) 2 σ) ∧ (x3 = 0 → R32 ((gI σ 73 24) - x1) ∧ L_X10_isName_15 X d n (zpZ P) x1 x2 x3 ((gI σ 73 24) - x1) 1 σ)) :
    ZkZ X M_X10_isName (d + 1) n [.ref (zB X + 73), iV x1, iV x2, iV x3] σ P := by
  refine zk_of (ls := [some (.ref (zB X + 73)), some (iV x1), some (iV x2), some (iV x3)]) pl_RX10 (Nat.le_of_ble_eq_true rfl) rfl (fun k0 => ?_)
  unfold Zn
  refine r_aload_n dX10_isName_0 rfl ?_
  refine r_getI dX10_isName_1 kf_RX10_201 (zlt hn rfl) sh_73 (Or.inl rfl) rfl ?_
  refine r_iload_n dX10_isName_4 rfl ?_
  refine r_isub dX10_isName_5 ?_
  refine r_iload_n dX10_isName_6 rfl ?_
  refine r_if_ne (t := 14) dX10_isName_7 rfl hx3  (fun c1 => ?_) (fun c2 => ?_)
  · have h3 := h.1 c1
    refine r_iconst dX10_isName_14 ?_
    obtain ⟨h4, h5⟩ := h3
    exact r_mask [true, true, true, true] rfl (h5 hx1 hx2 hx3 h4 (r32c rfl) k0)
  · have h6 := h.2 c2
    refine r_iconst dX10_isName_10 ?_
    refine r_goto (t := 15) dX10_isName_11 rfl ?_
    obtain ⟨h7, h8⟩ := h6
    exact r_mask [true, true, true, true] rfl (h8 hx1 hx2 hx3 h7 (r32c rfl) k0)
theorem b_X10_isName_15 {X : ZX} {d n : Nat} {P : Int → ZSto → Prop} {x1 : Int} {x2 : Int} {x3 : Int} {x20 : Int} {x21 : Int} {σ : ZSto} (hn : 104 ≤ n) 
    (h : (¬ x20 = x21 → P 0 σ) ∧ (x20 = x21 → (0 ≤ x1 ∧ x1 < 1500) ∧ (¬ gI σ 88 x1.toNat = x2 → P 0 σ) ∧ (gI σ 88 x1.toNat = x2 → (x3 = 0 → P 1 σ) ∧ (¬ (x3 = 0) → (0 ≤ x1 + 1 ∧ x1 + 1 < 1500) ∧ (¬ gI σ 88 ((x1 + 1).toNat) = x3 → P 0 σ) ∧ (gI σ 88 ((x1 + 1).toNat) = x3 → P 1 σ))))) :
    L_X10_isName_15 X d n (zpZ P) x1 x2 x3 x20 x21 σ := by
  intro hx1 hx2 hx3 hx20 hx21 k0
  unfold Zn
  refine r_icmp_ne (t := 48) dX10_isName_15 rfl hx20 hx21 (fun c1 => ?_) (fun c2 => ?_)
  · have h3 := h.1 c1
    refine r_iconst dX10_isName_48 ?_
    exact r_zreturn dX10_isName_49 rfl (Or.inl rfl) ⟨k0, _, rfl, (Or.inl rfl), h3⟩
  · have h4 := h.2 c2
    refine r_aload_n dX10_isName_18 rfl ?_
    refine r_getP (a := 88) dX10_isName_19 kf_RX10_59 (zlt hn rfl) sh_73 rfl (k0.1 _ _ _ (zlt hn rfl) p_73_19) ?_
    refine r_iload_n dX10_isName_22 rfl ?_
    obtain ⟨h5, h6⟩ := h4
    refine r_baloadE dX10_isName_23 (zlt hn rfl) sh_88 h5.1 h5.2 rfl ?_
    refine r_iload_n dX10_isName_24 rfl ?_
    refine r_icmp_ne (t := 48) dX10_isName_25 rfl (k0.2.1 _ _) hx2 (fun c7 => ?_) (fun c8 => ?_)
    · have h9 := h6.1 c7
      refine r_iconst dX10_isName_48 ?_
      exact r_zreturn dX10_isName_49 rfl (Or.inl rfl) ⟨k0, _, rfl, (Or.inl rfl), h9⟩
    · have h10 := h6.2 c8
      refine r_iload_n dX10_isName_28 rfl ?_
      refine r_if_eq (t := 44) dX10_isName_29 rfl hx3  (fun c11 => ?_) (fun c12 => ?_)
      · have h13 := h10.1 c11
        refine r_iconst dX10_isName_44 ?_
        refine r_goto (t := 49) dX10_isName_45 rfl ?_
        exact r_zreturn dX10_isName_49 rfl (Or.inr rfl) ⟨k0, _, rfl, (Or.inr rfl), h13⟩
      · have h14 := h10.2 c12
        refine r_aload_n dX10_isName_32 rfl ?_
        refine r_getP (a := 88) dX10_isName_33 kf_RX10_59 (zlt hn rfl) sh_73 rfl (k0.1 _ _ _ (zlt hn rfl) p_73_19) ?_
        refine r_iload_n dX10_isName_36 rfl ?_
        refine r_iconst dX10_isName_37 ?_
        refine r_iadd dX10_isName_38 ?_
        obtain ⟨h15, h16⟩ := h14
        refine r_baloadE dX10_isName_39 (zlt hn rfl) sh_88 h15.1 h15.2 rfl ?_
        refine r_iload_n dX10_isName_40 rfl ?_
        refine r_icmp_ne (t := 48) dX10_isName_41 rfl (k0.2.1 _ _) hx3 (fun c17 => ?_) (fun c18 => ?_)
        · have h19 := h16.1 c17
          refine r_iconst dX10_isName_48 ?_
          exact r_zreturn dX10_isName_49 rfl (Or.inl rfl) ⟨k0, _, rfl, (Or.inl rfl), h19⟩
        · have h20 := h16.2 c18
          refine r_iconst dX10_isName_44 ?_
          refine r_goto (t := 49) dX10_isName_45 rfl ?_
          exact r_zreturn dX10_isName_49 rfl (Or.inr rfl) ⟨k0, _, rfl, (Or.inr rfl), h20⟩
/-! StoneRoomModel.nameFrom -/
theorem dX10_nameFrom_0 : decode M_X10_nameFrom.2.1 0 = .ok (.aload_n 0, 1) := by decide +kernel
theorem dX10_nameFrom_1 : decode M_X10_nameFrom.2.1 1 = .ok (.iload_n 1, 1) := by decide +kernel
theorem dX10_nameFrom_2 : decode M_X10_nameFrom.2.1 2 = .ok (.bipush 83, 2) := by decide +kernel
theorem dX10_nameFrom_4 : decode M_X10_nameFrom.2.1 4 = .ok (.bipush 90, 2) := by decide +kernel
theorem dX10_nameFrom_6 : decode M_X10_nameFrom.2.1 6 = .ok (.invokevirtual 241, 3) := by decide +kernel
theorem dX10_nameFrom_9 : decode M_X10_nameFrom.2.1 9 = .ok (.ifCond .eq 7, 3) := by decide +kernel
theorem dX10_nameFrom_12 : decode M_X10_nameFrom.2.1 12 = .ok (.iconst 1, 1) := by decide +kernel
theorem dX10_nameFrom_13 : decode M_X10_nameFrom.2.1 13 = .ok (.goto 102, 3) := by decide +kernel
theorem dX10_nameFrom_16 : decode M_X10_nameFrom.2.1 16 = .ok (.aload_n 0, 1) := by decide +kernel
theorem dX10_nameFrom_17 : decode M_X10_nameFrom.2.1 17 = .ok (.iload_n 1, 1) := by decide +kernel
theorem dX10_nameFrom_18 : decode M_X10_nameFrom.2.1 18 = .ok (.bipush 75, 2) := by decide +kernel
theorem dX10_nameFrom_20 : decode M_X10_nameFrom.2.1 20 = .ok (.bipush 77, 2) := by decide +kernel
theorem dX10_nameFrom_22 : decode M_X10_nameFrom.2.1 22 = .ok (.invokevirtual 241, 3) := by decide +kernel
theorem dX10_nameFrom_25 : decode M_X10_nameFrom.2.1 25 = .ok (.ifCond .eq 7, 3) := by decide +kernel
theorem dX10_nameFrom_28 : decode M_X10_nameFrom.2.1 28 = .ok (.iconst 2, 1) := by decide +kernel
theorem dX10_nameFrom_29 : decode M_X10_nameFrom.2.1 29 = .ok (.goto 86, 3) := by decide +kernel
theorem dX10_nameFrom_32 : decode M_X10_nameFrom.2.1 32 = .ok (.aload_n 0, 1) := by decide +kernel
theorem dX10_nameFrom_33 : decode M_X10_nameFrom.2.1 33 = .ok (.iload_n 1, 1) := by decide +kernel
theorem dX10_nameFrom_34 : decode M_X10_nameFrom.2.1 34 = .ok (.bipush 66, 2) := by decide +kernel
theorem dX10_nameFrom_36 : decode M_X10_nameFrom.2.1 36 = .ok (.iconst 0, 1) := by decide +kernel
theorem dX10_nameFrom_37 : decode M_X10_nameFrom.2.1 37 = .ok (.invokevirtual 241, 3) := by decide +kernel
theorem dX10_nameFrom_40 : decode M_X10_nameFrom.2.1 40 = .ok (.ifCond .eq 7, 3) := by decide +kernel
theorem dX10_nameFrom_43 : decode M_X10_nameFrom.2.1 43 = .ok (.iconst 4, 1) := by decide +kernel
theorem dX10_nameFrom_44 : decode M_X10_nameFrom.2.1 44 = .ok (.goto 71, 3) := by decide +kernel
theorem dX10_nameFrom_47 : decode M_X10_nameFrom.2.1 47 = .ok (.aload_n 0, 1) := by decide +kernel
theorem dX10_nameFrom_48 : decode M_X10_nameFrom.2.1 48 = .ok (.iload_n 1, 1) := by decide +kernel
theorem dX10_nameFrom_49 : decode M_X10_nameFrom.2.1 49 = .ok (.bipush 87, 2) := by decide +kernel
theorem dX10_nameFrom_51 : decode M_X10_nameFrom.2.1 51 = .ok (.iconst 0, 1) := by decide +kernel
theorem dX10_nameFrom_52 : decode M_X10_nameFrom.2.1 52 = .ok (.invokevirtual 241, 3) := by decide +kernel
theorem dX10_nameFrom_55 : decode M_X10_nameFrom.2.1 55 = .ok (.ifCond .eq 8, 3) := by decide +kernel
theorem dX10_nameFrom_58 : decode M_X10_nameFrom.2.1 58 = .ok (.bipush 8, 2) := by decide +kernel
theorem dX10_nameFrom_60 : decode M_X10_nameFrom.2.1 60 = .ok (.goto 55, 3) := by decide +kernel
theorem dX10_nameFrom_63 : decode M_X10_nameFrom.2.1 63 = .ok (.aload_n 0, 1) := by decide +kernel
theorem dX10_nameFrom_64 : decode M_X10_nameFrom.2.1 64 = .ok (.iload_n 1, 1) := by decide +kernel
theorem dX10_nameFrom_65 : decode M_X10_nameFrom.2.1 65 = .ok (.bipush 65, 2) := by decide +kernel
theorem dX10_nameFrom_67 : decode M_X10_nameFrom.2.1 67 = .ok (.bipush 66, 2) := by decide +kernel
theorem dX10_nameFrom_69 : decode M_X10_nameFrom.2.1 69 = .ok (.invokevirtual 241, 3) := by decide +kernel
theorem dX10_nameFrom_72 : decode M_X10_nameFrom.2.1 72 = .ok (.ifCond .eq 8, 3) := by decide +kernel
theorem dX10_nameFrom_75 : decode M_X10_nameFrom.2.1 75 = .ok (.bipush 16, 2) := by decide +kernel
theorem dX10_nameFrom_77 : decode M_X10_nameFrom.2.1 77 = .ok (.goto 38, 3) := by decide +kernel
theorem dX10_nameFrom_80 : decode M_X10_nameFrom.2.1 80 = .ok (.aload_n 0, 1) := by decide +kernel
theorem dX10_nameFrom_81 : decode M_X10_nameFrom.2.1 81 = .ok (.iload_n 1, 1) := by decide +kernel
theorem dX10_nameFrom_82 : decode M_X10_nameFrom.2.1 82 = .ok (.bipush 65, 2) := by decide +kernel
theorem dX10_nameFrom_84 : decode M_X10_nameFrom.2.1 84 = .ok (.bipush 87, 2) := by decide +kernel
theorem dX10_nameFrom_86 : decode M_X10_nameFrom.2.1 86 = .ok (.invokevirtual 241, 3) := by decide +kernel
theorem dX10_nameFrom_89 : decode M_X10_nameFrom.2.1 89 = .ok (.ifCond .eq 8, 3) := by decide +kernel
theorem dX10_nameFrom_92 : decode M_X10_nameFrom.2.1 92 = .ok (.bipush 32, 2) := by decide +kernel
theorem dX10_nameFrom_94 : decode M_X10_nameFrom.2.1 94 = .ok (.goto 21, 3) := by decide +kernel
theorem dX10_nameFrom_97 : decode M_X10_nameFrom.2.1 97 = .ok (.aload_n 0, 1) := by decide +kernel
theorem dX10_nameFrom_98 : decode M_X10_nameFrom.2.1 98 = .ok (.iload_n 1, 1) := by decide +kernel
theorem dX10_nameFrom_99 : decode M_X10_nameFrom.2.1 99 = .ok (.bipush 65, 2) := by decide +kernel
theorem dX10_nameFrom_101 : decode M_X10_nameFrom.2.1 101 = .ok (.bipush 69, 2) := by decide +kernel
theorem dX10_nameFrom_103 : decode M_X10_nameFrom.2.1 103 = .ok (.invokevirtual 241, 3) := by decide +kernel
theorem dX10_nameFrom_106 : decode M_X10_nameFrom.2.1 106 = .ok (.ifCond .eq 8, 3) := by decide +kernel
theorem dX10_nameFrom_109 : decode M_X10_nameFrom.2.1 109 = .ok (.bipush 64, 2) := by decide +kernel
theorem dX10_nameFrom_111 : decode M_X10_nameFrom.2.1 111 = .ok (.goto 4, 3) := by decide +kernel
theorem dX10_nameFrom_114 : decode M_X10_nameFrom.2.1 114 = .ok (.iconst 0, 1) := by decide +kernel
theorem dX10_nameFrom_115 : decode M_X10_nameFrom.2.1 115 = .ok (.ireturn, 1) := by decide +kernel
theorem w_X10_nameFrom {X : ZX} {d n : Nat} {P : Int → ZSto → Prop} {x1 : Int} {σ : ZSto} (hn : 104 ≤ n)  (hx1 : R32 x1)
    (h : ZkZ X M_X10_isName d n [.ref (zB X + 73), iV x1, iV 83, iV 90] σ (fun v1 σ2 => (v1 = 0 → ZkZ X M_X10_isName d n [.ref (zB X + 73), iV x1, iV 75, iV 77] σ2 (fun v9 σ10 => (v9 = 0 → ZkZ X M_X10_isName d n [.ref (zB X + 73), iV x1, iV 66, iV 0] σ10 (fun v17 σ18 => (v17 = 0 → ZkZ X M_X10_isName d n [.ref (zB X + 73), iV x1, iV 87, iV 0] σ18 (fun v25 σ26 => (v25 = 0 → ZkZ X M_X10_isName d n [.ref (zB X + 73), iV x1, iV 65, iV 66] σ26 (fun v33 σ34 => (v33 = 0 → ZkZ X M_X10_isName d n [.ref (zB X + 73), iV x1, iV 65, iV 87] σ34 (fun v41 σ42 => (v41 = 0 → ZkZ X M_X10_isName d n [.ref (zB X + 73), iV x1, iV 65, iV 69] σ42 (fun v49 σ50 => (v49 = 0 → P 0 σ50) ∧ (¬ (v49 = 0) → P 64 σ50))) ∧ (¬ (v41 = 0) → P 32 σ42))) ∧ (¬ (v33 = 0) → P 16 σ34))) ∧ (¬ (v25 = 0) → P 8 σ26))) ∧ (¬ (v17 = 0) → P 4 σ18))) ∧ (¬ (v9 = 0) → P 2 σ10))) ∧ (¬ (v1 = 0) → P 1 σ2))) :
    ZkI X M_X10_nameFrom (d + 1) n [.ref (zB X + 73), iV x1] σ P := by
  refine zk_of (ls := [some (.ref (zB X + 73)), some (iV x1)]) pl_RX10 (Nat.le_of_ble_eq_true rfl) rfl (fun k0 => ?_)
  unfold Zn
  refine r_aload_n dX10_nameFrom_0 rfl ?_
  refine r_iload_n dX10_nameFrom_1 rfl ?_
  refine r_bipush dX10_nameFrom_2 rfl ?_
  refine r_bipush dX10_nameFrom_4 rfl ?_
  refine n_callV (N := M_X10_isName) (As := [iV x1, iV 83, iV 90]) (st := []) dX10_nameFrom_6 mk_X10_isName km_RX10_241 kd_X10_isName rfl (zlt hn rfl) sh_73 (q := (RX10, TX10, 52)) rfl rfl (zFits_rm d n n n (Nat.le_refl n)) (Nat.le_of_ble_eq_true rfl) rfl k0 h ?_
  rintro _ σ2 k3 ⟨v1, rfl, h4, h5⟩
  change Zm _ _ _ _ _ _ 9 _ [iV v1] _
  refine r_if_eq (t := 16) dX10_nameFrom_9 rfl (r32_z h4)  (fun c6 => ?_) (fun c7 => ?_)
  · have h8 := h5.1 c6
    refine r_aload_n dX10_nameFrom_16 rfl ?_
    refine r_iload_n dX10_nameFrom_17 rfl ?_
    refine r_bipush dX10_nameFrom_18 rfl ?_
    refine r_bipush dX10_nameFrom_20 rfl ?_
    refine n_callV (N := M_X10_isName) (As := [iV x1, iV 75, iV 77]) (st := []) dX10_nameFrom_22 mk_X10_isName km_RX10_241 kd_X10_isName rfl (zlt hn rfl) sh_73 (q := (RX10, TX10, 52)) rfl rfl (zFits_rm d n n n (Nat.le_refl n)) (Nat.le_of_ble_eq_true rfl) rfl k3 h8 ?_
    rintro _ σ10 k11 ⟨v9, rfl, h12, h13⟩
    change Zm _ _ _ _ _ _ 25 _ [iV v9] _
    refine r_if_eq (t := 32) dX10_nameFrom_25 rfl (r32_z h12)  (fun c14 => ?_) (fun c15 => ?_)
    · have h16 := h13.1 c14
      refine r_aload_n dX10_nameFrom_32 rfl ?_
      refine r_iload_n dX10_nameFrom_33 rfl ?_
      refine r_bipush dX10_nameFrom_34 rfl ?_
      refine r_iconst dX10_nameFrom_36 ?_
      refine n_callV (N := M_X10_isName) (As := [iV x1, iV 66, iV 0]) (st := []) dX10_nameFrom_37 mk_X10_isName km_RX10_241 kd_X10_isName rfl (zlt hn rfl) sh_73 (q := (RX10, TX10, 52)) rfl rfl (zFits_rm d n n n (Nat.le_refl n)) (Nat.le_of_ble_eq_true rfl) rfl k11 h16 ?_
      rintro _ σ18 k19 ⟨v17, rfl, h20, h21⟩
      change Zm _ _ _ _ _ _ 40 _ [iV v17] _
      refine r_if_eq (t := 47) dX10_nameFrom_40 rfl (r32_z h20)  (fun c22 => ?_) (fun c23 => ?_)
      · have h24 := h21.1 c22
        refine r_aload_n dX10_nameFrom_47 rfl ?_
        refine r_iload_n dX10_nameFrom_48 rfl ?_
        refine r_bipush dX10_nameFrom_49 rfl ?_
        refine r_iconst dX10_nameFrom_51 ?_
        refine n_callV (N := M_X10_isName) (As := [iV x1, iV 87, iV 0]) (st := []) dX10_nameFrom_52 mk_X10_isName km_RX10_241 kd_X10_isName rfl (zlt hn rfl) sh_73 (q := (RX10, TX10, 52)) rfl rfl (zFits_rm d n n n (Nat.le_refl n)) (Nat.le_of_ble_eq_true rfl) rfl k19 h24 ?_
        rintro _ σ26 k27 ⟨v25, rfl, h28, h29⟩
        change Zm _ _ _ _ _ _ 55 _ [iV v25] _
        refine r_if_eq (t := 63) dX10_nameFrom_55 rfl (r32_z h28)  (fun c30 => ?_) (fun c31 => ?_)
        · have h32 := h29.1 c30
          refine r_aload_n dX10_nameFrom_63 rfl ?_
          refine r_iload_n dX10_nameFrom_64 rfl ?_
          refine r_bipush dX10_nameFrom_65 rfl ?_
          refine r_bipush dX10_nameFrom_67 rfl ?_
          refine n_callV (N := M_X10_isName) (As := [iV x1, iV 65, iV 66]) (st := []) dX10_nameFrom_69 mk_X10_isName km_RX10_241 kd_X10_isName rfl (zlt hn rfl) sh_73 (q := (RX10, TX10, 52)) rfl rfl (zFits_rm d n n n (Nat.le_refl n)) (Nat.le_of_ble_eq_true rfl) rfl k27 h32 ?_
          rintro _ σ34 k35 ⟨v33, rfl, h36, h37⟩
          change Zm _ _ _ _ _ _ 72 _ [iV v33] _
          refine r_if_eq (t := 80) dX10_nameFrom_72 rfl (r32_z h36)  (fun c38 => ?_) (fun c39 => ?_)
          · have h40 := h37.1 c38
            refine r_aload_n dX10_nameFrom_80 rfl ?_
            refine r_iload_n dX10_nameFrom_81 rfl ?_
            refine r_bipush dX10_nameFrom_82 rfl ?_
            refine r_bipush dX10_nameFrom_84 rfl ?_
            refine n_callV (N := M_X10_isName) (As := [iV x1, iV 65, iV 87]) (st := []) dX10_nameFrom_86 mk_X10_isName km_RX10_241 kd_X10_isName rfl (zlt hn rfl) sh_73 (q := (RX10, TX10, 52)) rfl rfl (zFits_rm d n n n (Nat.le_refl n)) (Nat.le_of_ble_eq_true rfl) rfl k35 h40 ?_
            rintro _ σ42 k43 ⟨v41, rfl, h44, h45⟩
            change Zm _ _ _ _ _ _ 89 _ [iV v41] _
            refine r_if_eq (t := 97) dX10_nameFrom_89 rfl (r32_z h44)  (fun c46 => ?_) (fun c47 => ?_)
            · have h48 := h45.1 c46
              refine r_aload_n dX10_nameFrom_97 rfl ?_
              refine r_iload_n dX10_nameFrom_98 rfl ?_
              refine r_bipush dX10_nameFrom_99 rfl ?_
              refine r_bipush dX10_nameFrom_101 rfl ?_
              refine n_callV (N := M_X10_isName) (As := [iV x1, iV 65, iV 69]) (st := []) dX10_nameFrom_103 mk_X10_isName km_RX10_241 kd_X10_isName rfl (zlt hn rfl) sh_73 (q := (RX10, TX10, 52)) rfl rfl (zFits_rm d n n n (Nat.le_refl n)) (Nat.le_of_ble_eq_true rfl) rfl k43 h48 ?_
              rintro _ σ50 k51 ⟨v49, rfl, h52, h53⟩
              change Zm _ _ _ _ _ _ 106 _ [iV v49] _
              refine r_if_eq (t := 114) dX10_nameFrom_106 rfl (r32_z h52)  (fun c54 => ?_) (fun c55 => ?_)
              · have h56 := h53.1 c54
                refine r_iconst dX10_nameFrom_114 ?_
                exact r_ireturn dX10_nameFrom_115 rfl ⟨k51, _, rfl, (r32c rfl), h56⟩
              · have h57 := h53.2 c55
                refine r_bipush dX10_nameFrom_109 rfl ?_
                refine r_goto (t := 115) dX10_nameFrom_111 rfl ?_
                exact r_ireturn dX10_nameFrom_115 rfl ⟨k51, _, rfl, (r32c rfl), h57⟩
            · have h58 := h45.2 c47
              refine r_bipush dX10_nameFrom_92 rfl ?_
              refine r_goto (t := 115) dX10_nameFrom_94 rfl ?_
              exact r_ireturn dX10_nameFrom_115 rfl ⟨k43, _, rfl, (r32c rfl), h58⟩
          · have h59 := h37.2 c39
            refine r_bipush dX10_nameFrom_75 rfl ?_
            refine r_goto (t := 115) dX10_nameFrom_77 rfl ?_
            exact r_ireturn dX10_nameFrom_115 rfl ⟨k35, _, rfl, (r32c rfl), h59⟩
        · have h60 := h29.2 c31
          refine r_bipush dX10_nameFrom_58 rfl ?_
          refine r_goto (t := 115) dX10_nameFrom_60 rfl ?_
          exact r_ireturn dX10_nameFrom_115 rfl ⟨k27, _, rfl, (r32c rfl), h60⟩
      · have h61 := h21.2 c23
        refine r_iconst dX10_nameFrom_43 ?_
        refine r_goto (t := 115) dX10_nameFrom_44 rfl ?_
        exact r_ireturn dX10_nameFrom_115 rfl ⟨k19, _, rfl, (r32c rfl), h61⟩
    · have h62 := h13.2 c15
      refine r_iconst dX10_nameFrom_28 ?_
      refine r_goto (t := 115) dX10_nameFrom_29 rfl ?_
      exact r_ireturn dX10_nameFrom_115 rfl ⟨k11, _, rfl, (r32c rfl), h62⟩
  · have h63 := h5.2 c7
    refine r_iconst dX10_nameFrom_12 ?_
    refine r_goto (t := 115) dX10_nameFrom_13 rfl ?_
    exact r_ireturn dX10_nameFrom_115 rfl ⟨k3, _, rfl, (r32c rfl), h63⟩
/-! StoneRoomModel.property -/
theorem dX10_property_0 : decode M_X10_property.2.1 0 = .ok (.aload_n 0, 1) := by decide +kernel
theorem dX10_property_1 : decode M_X10_property.2.1 1 = .ok (.getfield 201, 3) := by decide +kernel
theorem dX10_property_4 : decode M_X10_property.2.1 4 = .ok (.istore_n 2, 1) := by decide +kernel
theorem dX10_property_5 : decode M_X10_property.2.1 5 = .ok (.aload_n 0, 1) := by decide +kernel
theorem dX10_property_6 : decode M_X10_property.2.1 6 = .ok (.invokevirtual 204, 3) := by decide +kernel
theorem dX10_property_9 : decode M_X10_property.2.1 9 = .ok (.bipush 65, 2) := by decide +kernel
theorem dX10_property_11 : decode M_X10_property.2.1 11 = .ok (.if_icmp .lt 25, 3) := by decide +kernel
theorem dX10_property_14 : decode M_X10_property.2.1 14 = .ok (.aload_n 0, 1) := by decide +kernel
theorem dX10_property_15 : decode M_X10_property.2.1 15 = .ok (.invokevirtual 204, 3) := by decide +kernel
theorem dX10_property_18 : decode M_X10_property.2.1 18 = .ok (.bipush 90, 2) := by decide +kernel
theorem dX10_property_20 : decode M_X10_property.2.1 20 = .ok (.if_icmp .gt 16, 3) := by decide +kernel
theorem dX10_property_23 : decode M_X10_property.2.1 23 = .ok (.aload_n 0, 1) := by decide +kernel
theorem dX10_property_24 : decode M_X10_property.2.1 24 = .ok (.dup, 1) := by decide +kernel
theorem dX10_property_25 : decode M_X10_property.2.1 25 = .ok (.getfield 201, 3) := by decide +kernel
theorem dX10_property_28 : decode M_X10_property.2.1 28 = .ok (.iconst 1, 1) := by decide +kernel
theorem dX10_property_29 : decode M_X10_property.2.1 29 = .ok (.iadd, 1) := by decide +kernel
theorem dX10_property_30 : decode M_X10_property.2.1 30 = .ok (.putfield 201, 3) := by decide +kernel
theorem dX10_property_33 : decode M_X10_property.2.1 33 = .ok (.goto (-28), 3) := by decide +kernel
theorem dX10_property_36 : decode M_X10_property.2.1 36 = .ok (.aload_n 0, 1) := by decide +kernel
theorem dX10_property_37 : decode M_X10_property.2.1 37 = .ok (.iload_n 2, 1) := by decide +kernel
theorem dX10_property_38 : decode M_X10_property.2.1 38 = .ok (.invokevirtual 245, 3) := by decide +kernel
theorem dX10_property_41 : decode M_X10_property.2.1 41 = .ok (.istore_n 3, 1) := by decide +kernel
theorem dX10_property_42 : decode M_X10_property.2.1 42 = .ok (.iload_n 3, 1) := by decide +kernel
theorem dX10_property_43 : decode M_X10_property.2.1 43 = .ok (.iconst 1, 1) := by decide +kernel
theorem dX10_property_44 : decode M_X10_property.2.1 44 = .ok (.if_icmp .eq 8, 3) := by decide +kernel
theorem dX10_property_47 : decode M_X10_property.2.1 47 = .ok (.iload_n 3, 1) := by decide +kernel
theorem dX10_property_48 : decode M_X10_property.2.1 48 = .ok (.iconst 2, 1) := by decide +kernel
theorem dX10_property_49 : decode M_X10_property.2.1 49 = .ok (.if_icmp .ne 7, 3) := by decide +kernel
theorem dX10_property_52 : decode M_X10_property.2.1 52 = .ok (.iconst 1, 1) := by decide +kernel
theorem dX10_property_53 : decode M_X10_property.2.1 53 = .ok (.goto 4, 3) := by decide +kernel
theorem dX10_property_56 : decode M_X10_property.2.1 56 = .ok (.iconst 0, 1) := by decide +kernel
theorem dX10_property_57 : decode M_X10_property.2.1 57 = .ok (.istore 4, 2) := by decide +kernel
theorem dX10_property_59 : decode M_X10_property.2.1 59 = .ok (.iload_n 3, 1) := by decide +kernel
theorem dX10_property_60 : decode M_X10_property.2.1 60 = .ok (.iconst 4, 1) := by decide +kernel
theorem dX10_property_61 : decode M_X10_property.2.1 61 = .ok (.if_icmp .eq 9, 3) := by decide +kernel
theorem dX10_property_64 : decode M_X10_property.2.1 64 = .ok (.iload_n 3, 1) := by decide +kernel
theorem dX10_property_65 : decode M_X10_property.2.1 65 = .ok (.bipush 8, 2) := by decide +kernel
theorem dX10_property_67 : decode M_X10_property.2.1 67 = .ok (.if_icmp .ne 7, 3) := by decide +kernel
theorem dX10_property_70 : decode M_X10_property.2.1 70 = .ok (.iconst 1, 1) := by decide +kernel
theorem dX10_property_71 : decode M_X10_property.2.1 71 = .ok (.goto 4, 3) := by decide +kernel
theorem dX10_property_74 : decode M_X10_property.2.1 74 = .ok (.iconst 0, 1) := by decide +kernel
theorem dX10_property_75 : decode M_X10_property.2.1 75 = .ok (.istore 5, 2) := by decide +kernel
theorem dX10_property_77 : decode M_X10_property.2.1 77 = .ok (.iload_n 3, 1) := by decide +kernel
theorem dX10_property_78 : decode M_X10_property.2.1 78 = .ok (.bipush 16, 2) := by decide +kernel
theorem dX10_property_80 : decode M_X10_property.2.1 80 = .ok (.if_icmp .lt 7, 3) := by decide +kernel
theorem dX10_property_83 : decode M_X10_property.2.1 83 = .ok (.iconst 1, 1) := by decide +kernel
theorem dX10_property_84 : decode M_X10_property.2.1 84 = .ok (.goto 4, 3) := by decide +kernel
theorem dX10_property_87 : decode M_X10_property.2.1 87 = .ok (.iconst 0, 1) := by decide +kernel
theorem dX10_property_88 : decode M_X10_property.2.1 88 = .ok (.istore 6, 2) := by decide +kernel
theorem dX10_property_90 : decode M_X10_property.2.1 90 = .ok (.iload_n 3, 1) := by decide +kernel
theorem dX10_property_91 : decode M_X10_property.2.1 91 = .ok (.ifCond .le 12, 3) := by decide +kernel
theorem dX10_property_94 : decode M_X10_property.2.1 94 = .ok (.aload_n 0, 1) := by decide +kernel
theorem dX10_property_95 : decode M_X10_property.2.1 95 = .ok (.getfield 235, 3) := by decide +kernel
theorem dX10_property_98 : decode M_X10_property.2.1 98 = .ok (.iload_n 3, 1) := by decide +kernel
theorem dX10_property_99 : decode M_X10_property.2.1 99 = .ok (.iand, 1) := by decide +kernel
theorem dX10_property_100 : decode M_X10_property.2.1 100 = .ok (.ifCond .ne 63, 3) := by decide +kernel
theorem dX10_property_103 : decode M_X10_property.2.1 103 = .ok (.iload 5, 2) := by decide +kernel
theorem dX10_property_105 : decode M_X10_property.2.1 105 = .ok (.ifCond .eq 13, 3) := by decide +kernel
theorem dX10_property_108 : decode M_X10_property.2.1 108 = .ok (.aload_n 0, 1) := by decide +kernel
theorem dX10_property_109 : decode M_X10_property.2.1 109 = .ok (.getfield 235, 3) := by decide +kernel
theorem dX10_property_112 : decode M_X10_property.2.1 112 = .ok (.bipush 124, 2) := by decide +kernel
theorem dX10_property_114 : decode M_X10_property.2.1 114 = .ok (.iand, 1) := by decide +kernel
theorem dX10_property_115 : decode M_X10_property.2.1 115 = .ok (.ifCond .ne 48, 3) := by decide +kernel
theorem dX10_property_118 : decode M_X10_property.2.1 118 = .ok (.iload 6, 2) := by decide +kernel
theorem dX10_property_120 : decode M_X10_property.2.1 120 = .ok (.ifCond .eq 13, 3) := by decide +kernel
theorem dX10_property_123 : decode M_X10_property.2.1 123 = .ok (.aload_n 0, 1) := by decide +kernel
theorem dX10_property_124 : decode M_X10_property.2.1 124 = .ok (.getfield 235, 3) := by decide +kernel
theorem dX10_property_127 : decode M_X10_property.2.1 127 = .ok (.bipush 12, 2) := by decide +kernel
theorem dX10_property_129 : decode M_X10_property.2.1 129 = .ok (.iand, 1) := by decide +kernel
theorem dX10_property_130 : decode M_X10_property.2.1 130 = .ok (.ifCond .ne 33, 3) := by decide +kernel
theorem dX10_property_133 : decode M_X10_property.2.1 133 = .ok (.iload 4, 2) := by decide +kernel
theorem dX10_property_135 : decode M_X10_property.2.1 135 = .ok (.ifCond .eq 13, 3) := by decide +kernel
theorem dX10_property_138 : decode M_X10_property.2.1 138 = .ok (.aload_n 0, 1) := by decide +kernel
theorem dX10_property_139 : decode M_X10_property.2.1 139 = .ok (.getfield 7, 3) := by decide +kernel
theorem dX10_property_142 : decode M_X10_property.2.1 142 = .ok (.iload_n 1, 1) := by decide +kernel
theorem dX10_property_143 : decode M_X10_property.2.1 143 = .ok (.iaload, 1) := by decide +kernel
theorem dX10_property_144 : decode M_X10_property.2.1 144 = .ok (.iconst (-1), 1) := by decide +kernel
theorem dX10_property_145 : decode M_X10_property.2.1 145 = .ok (.if_icmp .ne 18, 3) := by decide +kernel
theorem dX10_property_148 : decode M_X10_property.2.1 148 = .ok (.iload_n 3, 1) := by decide +kernel
theorem dX10_property_149 : decode M_X10_property.2.1 149 = .ok (.iconst 1, 1) := by decide +kernel
theorem dX10_property_150 : decode M_X10_property.2.1 150 = .ok (.if_icmp .ne 17, 3) := by decide +kernel
theorem dX10_property_153 : decode M_X10_property.2.1 153 = .ok (.aload_n 0, 1) := by decide +kernel
theorem dX10_property_154 : decode M_X10_property.2.1 154 = .ok (.getfield 235, 3) := by decide +kernel
theorem dX10_property_157 : decode M_X10_property.2.1 157 = .ok (.bipush 124, 2) := by decide +kernel
theorem dX10_property_159 : decode M_X10_property.2.1 159 = .ok (.iand, 1) := by decide +kernel
theorem dX10_property_160 : decode M_X10_property.2.1 160 = .ok (.ifCond .eq 7, 3) := by decide +kernel
theorem dX10_property_163 : decode M_X10_property.2.1 163 = .ok (.iconst 1, 1) := by decide +kernel
theorem dX10_property_164 : decode M_X10_property.2.1 164 = .ok (.goto 4, 3) := by decide +kernel
theorem dX10_property_167 : decode M_X10_property.2.1 167 = .ok (.iconst 0, 1) := by decide +kernel
theorem dX10_property_168 : decode M_X10_property.2.1 168 = .ok (.istore 7, 2) := by decide +kernel
theorem dX10_property_170 : decode M_X10_property.2.1 170 = .ok (.iload 7, 2) := by decide +kernel
theorem dX10_property_172 : decode M_X10_property.2.1 172 = .ok (.ifCond .eq 10, 3) := by decide +kernel
theorem dX10_property_175 : decode M_X10_property.2.1 175 = .ok (.aload_n 0, 1) := by decide +kernel
theorem dX10_property_176 : decode M_X10_property.2.1 176 = .ok (.iconst 2, 1) := by decide +kernel
theorem dX10_property_177 : decode M_X10_property.2.1 177 = .ok (.iload_n 2, 1) := by decide +kernel
theorem dX10_property_178 : decode M_X10_property.2.1 178 = .ok (.invokevirtual 229, 3) := by decide +kernel
theorem dX10_property_181 : decode M_X10_property.2.1 181 = .ok (.ireturn, 1) := by decide +kernel
theorem dX10_property_182 : decode M_X10_property.2.1 182 = .ok (.aload_n 0, 1) := by decide +kernel
theorem dX10_property_183 : decode M_X10_property.2.1 183 = .ok (.dup, 1) := by decide +kernel
theorem dX10_property_184 : decode M_X10_property.2.1 184 = .ok (.getfield 235, 3) := by decide +kernel
theorem dX10_property_187 : decode M_X10_property.2.1 187 = .ok (.iload_n 3, 1) := by decide +kernel
theorem dX10_property_188 : decode M_X10_property.2.1 188 = .ok (.ior, 1) := by decide +kernel
theorem dX10_property_189 : decode M_X10_property.2.1 189 = .ok (.putfield 235, 3) := by decide +kernel
theorem dX10_property_192 : decode M_X10_property.2.1 192 = .ok (.iconst 0, 1) := by decide +kernel
theorem dX10_property_193 : decode M_X10_property.2.1 193 = .ok (.istore 8, 2) := by decide +kernel
theorem dX10_property_195 : decode M_X10_property.2.1 195 = .ok (.aload_n 0, 1) := by decide +kernel
theorem dX10_property_196 : decode M_X10_property.2.1 196 = .ok (.invokevirtual 226, 3) := by decide +kernel
theorem dX10_property_199 : decode M_X10_property.2.1 199 = .ok (.aload_n 0, 1) := by decide +kernel
theorem dX10_property_200 : decode M_X10_property.2.1 200 = .ok (.invokevirtual 204, 3) := by decide +kernel
theorem dX10_property_203 : decode M_X10_property.2.1 203 = .ok (.bipush 91, 2) := by decide +kernel
theorem dX10_property_205 : decode M_X10_property.2.1 205 = .ok (.if_icmp .eq 13, 3) := by decide +kernel
theorem dX10_property_208 : decode M_X10_property.2.1 208 = .ok (.aload_n 0, 1) := by decide +kernel
theorem dX10_property_209 : decode M_X10_property.2.1 209 = .ok (.iconst 1, 1) := by decide +kernel
theorem dX10_property_210 : decode M_X10_property.2.1 210 = .ok (.aload_n 0, 1) := by decide +kernel
theorem dX10_property_211 : decode M_X10_property.2.1 211 = .ok (.getfield 201, 3) := by decide +kernel
theorem dX10_property_214 : decode M_X10_property.2.1 214 = .ok (.invokevirtual 229, 3) := by decide +kernel
theorem dX10_property_217 : decode M_X10_property.2.1 217 = .ok (.ireturn, 1) := by decide +kernel
theorem dX10_property_218 : decode M_X10_property.2.1 218 = .ok (.aload_n 0, 1) := by decide +kernel
theorem dX10_property_219 : decode M_X10_property.2.1 219 = .ok (.invokevirtual 204, 3) := by decide +kernel
theorem dX10_property_222 : decode M_X10_property.2.1 222 = .ok (.bipush 91, 2) := by decide +kernel
theorem dX10_property_224 : decode M_X10_property.2.1 224 = .ok (.if_icmp .ne 145, 3) := by decide +kernel
theorem dX10_property_227 : decode M_X10_property.2.1 227 = .ok (.aload_n 0, 1) := by decide +kernel
theorem dX10_property_228 : decode M_X10_property.2.1 228 = .ok (.getfield 201, 3) := by decide +kernel
theorem dX10_property_231 : decode M_X10_property.2.1 231 = .ok (.istore 9, 2) := by decide +kernel
theorem dX10_property_233 : decode M_X10_property.2.1 233 = .ok (.aload_n 0, 1) := by decide +kernel
theorem dX10_property_234 : decode M_X10_property.2.1 234 = .ok (.dup, 1) := by decide +kernel
theorem dX10_property_235 : decode M_X10_property.2.1 235 = .ok (.getfield 201, 3) := by decide +kernel
theorem dX10_property_238 : decode M_X10_property.2.1 238 = .ok (.iconst 1, 1) := by decide +kernel
theorem dX10_property_239 : decode M_X10_property.2.1 239 = .ok (.iadd, 1) := by decide +kernel
theorem dX10_property_240 : decode M_X10_property.2.1 240 = .ok (.putfield 201, 3) := by decide +kernel
theorem dX10_property_243 : decode M_X10_property.2.1 243 = .ok (.aload_n 0, 1) := by decide +kernel
theorem dX10_property_244 : decode M_X10_property.2.1 244 = .ok (.getfield 201, 3) := by decide +kernel
theorem dX10_property_247 : decode M_X10_property.2.1 247 = .ok (.istore 10, 2) := by decide +kernel
theorem dX10_property_249 : decode M_X10_property.2.1 249 = .ok (.aload_n 0, 1) := by decide +kernel
theorem dX10_property_250 : decode M_X10_property.2.1 250 = .ok (.invokevirtual 204, 3) := by decide +kernel
theorem dX10_property_253 : decode M_X10_property.2.1 253 = .ok (.bipush 93, 2) := by decide +kernel
theorem dX10_property_255 : decode M_X10_property.2.1 255 = .ok (.if_icmp .eq 56, 3) := by decide +kernel
theorem dX10_property_258 : decode M_X10_property.2.1 258 = .ok (.aload_n 0, 1) := by decide +kernel
theorem dX10_property_259 : decode M_X10_property.2.1 259 = .ok (.invokevirtual 204, 3) := by decide +kernel
theorem dX10_property_262 : decode M_X10_property.2.1 262 = .ok (.bipush 92, 2) := by decide +kernel
theorem dX10_property_264 : decode M_X10_property.2.1 264 = .ok (.if_icmp .ne 13, 3) := by decide +kernel
theorem dX10_property_267 : decode M_X10_property.2.1 267 = .ok (.aload_n 0, 1) := by decide +kernel
theorem dX10_property_268 : decode M_X10_property.2.1 268 = .ok (.dup, 1) := by decide +kernel
theorem dX10_property_269 : decode M_X10_property.2.1 269 = .ok (.getfield 201, 3) := by decide +kernel
theorem dX10_property_272 : decode M_X10_property.2.1 272 = .ok (.iconst 1, 1) := by decide +kernel
theorem dX10_property_273 : decode M_X10_property.2.1 273 = .ok (.iadd, 1) := by decide +kernel
theorem dX10_property_274 : decode M_X10_property.2.1 274 = .ok (.putfield 201, 3) := by decide +kernel
theorem dX10_property_277 : decode M_X10_property.2.1 277 = .ok (.aload_n 0, 1) := by decide +kernel
theorem dX10_property_278 : decode M_X10_property.2.1 278 = .ok (.getfield 201, 3) := by decide +kernel
theorem dX10_property_281 : decode M_X10_property.2.1 281 = .ok (.aload_n 0, 1) := by decide +kernel
theorem dX10_property_282 : decode M_X10_property.2.1 282 = .ok (.getfield 195, 3) := by decide +kernel
theorem dX10_property_285 : decode M_X10_property.2.1 285 = .ok (.if_icmp .lt 13, 3) := by decide +kernel
theorem dX10_property_288 : decode M_X10_property.2.1 288 = .ok (.aload_n 0, 1) := by decide +kernel
theorem dX10_property_289 : decode M_X10_property.2.1 289 = .ok (.iconst 1, 1) := by decide +kernel
theorem dX10_property_290 : decode M_X10_property.2.1 290 = .ok (.aload_n 0, 1) := by decide +kernel
theorem dX10_property_291 : decode M_X10_property.2.1 291 = .ok (.getfield 195, 3) := by decide +kernel
theorem dX10_property_294 : decode M_X10_property.2.1 294 = .ok (.invokevirtual 229, 3) := by decide +kernel
theorem dX10_property_297 : decode M_X10_property.2.1 297 = .ok (.ireturn, 1) := by decide +kernel
theorem dX10_property_298 : decode M_X10_property.2.1 298 = .ok (.aload_n 0, 1) := by decide +kernel
theorem dX10_property_299 : decode M_X10_property.2.1 299 = .ok (.dup, 1) := by decide +kernel
theorem dX10_property_300 : decode M_X10_property.2.1 300 = .ok (.getfield 201, 3) := by decide +kernel
theorem dX10_property_303 : decode M_X10_property.2.1 303 = .ok (.iconst 1, 1) := by decide +kernel
theorem dX10_property_304 : decode M_X10_property.2.1 304 = .ok (.iadd, 1) := by decide +kernel
theorem dX10_property_305 : decode M_X10_property.2.1 305 = .ok (.putfield 201, 3) := by decide +kernel
theorem dX10_property_308 : decode M_X10_property.2.1 308 = .ok (.goto (-59), 3) := by decide +kernel
theorem dX10_property_311 : decode M_X10_property.2.1 311 = .ok (.iinc 8 1, 3) := by decide +kernel
theorem dX10_property_314 : decode M_X10_property.2.1 314 = .ok (.iload_n 3, 1) := by decide +kernel
theorem dX10_property_315 : decode M_X10_property.2.1 315 = .ok (.ifCond .le 37, 3) := by decide +kernel
theorem dX10_property_318 : decode M_X10_property.2.1 318 = .ok (.iload_n 3, 1) := by decide +kernel
theorem dX10_property_319 : decode M_X10_property.2.1 319 = .ok (.bipush 16, 2) := by decide +kernel
theorem dX10_property_321 : decode M_X10_property.2.1 321 = .ok (.if_icmp .ge 12, 3) := by decide +kernel
theorem dX10_property_324 : decode M_X10_property.2.1 324 = .ok (.iload 8, 2) := by decide +kernel
theorem dX10_property_326 : decode M_X10_property.2.1 326 = .ok (.iconst 1, 1) := by decide +kernel
theorem dX10_property_327 : decode M_X10_property.2.1 327 = .ok (.if_icmp .le 6, 3) := by decide +kernel
theorem dX10_property_330 : decode M_X10_property.2.1 330 = .ok (.goto 14, 3) := by decide +kernel
theorem dX10_property_333 : decode M_X10_property.2.1 333 = .ok (.aload_n 0, 1) := by decide +kernel
theorem dX10_property_334 : decode M_X10_property.2.1 334 = .ok (.iload_n 1, 1) := by decide +kernel
theorem dX10_property_335 : decode M_X10_property.2.1 335 = .ok (.iload_n 3, 1) := by decide +kernel
theorem dX10_property_336 : decode M_X10_property.2.1 336 = .ok (.iload 10, 2) := by decide +kernel
theorem dX10_property_338 : decode M_X10_property.2.1 338 = .ok (.invokevirtual 248, 3) := by decide +kernel
theorem dX10_property_341 : decode M_X10_property.2.1 341 = .ok (.ifCond .ne 11, 3) := by decide +kernel
theorem dX10_property_344 : decode M_X10_property.2.1 344 = .ok (.aload_n 0, 1) := by decide +kernel
theorem dX10_property_345 : decode M_X10_property.2.1 345 = .ok (.iconst 3, 1) := by decide +kernel
theorem dX10_property_346 : decode M_X10_property.2.1 346 = .ok (.iload 9, 2) := by decide +kernel
theorem dX10_property_348 : decode M_X10_property.2.1 348 = .ok (.invokevirtual 229, 3) := by decide +kernel
theorem dX10_property_351 : decode M_X10_property.2.1 351 = .ok (.ireturn, 1) := by decide +kernel
theorem dX10_property_352 : decode M_X10_property.2.1 352 = .ok (.aload_n 0, 1) := by decide +kernel
theorem dX10_property_353 : decode M_X10_property.2.1 353 = .ok (.dup, 1) := by decide +kernel
theorem dX10_property_354 : decode M_X10_property.2.1 354 = .ok (.getfield 201, 3) := by decide +kernel
theorem dX10_property_357 : decode M_X10_property.2.1 357 = .ok (.iconst 1, 1) := by decide +kernel
theorem dX10_property_358 : decode M_X10_property.2.1 358 = .ok (.iadd, 1) := by decide +kernel
theorem dX10_property_359 : decode M_X10_property.2.1 359 = .ok (.putfield 201, 3) := by decide +kernel
theorem dX10_property_362 : decode M_X10_property.2.1 362 = .ok (.aload_n 0, 1) := by decide +kernel
theorem dX10_property_363 : decode M_X10_property.2.1 363 = .ok (.invokevirtual 226, 3) := by decide +kernel
theorem dX10_property_366 : decode M_X10_property.2.1 366 = .ok (.goto (-148), 3) := by decide +kernel
theorem dX10_property_369 : decode M_X10_property.2.1 369 = .ok (.iconst 1, 1) := by decide +kernel
theorem dX10_property_370 : decode M_X10_property.2.1 370 = .ok (.ireturn, 1) := by decide +kernel
def L_X10_property_5 (X : ZX) (d n : Nat) (P : Option Value → ZSto → Prop) (x1 : Int) (x2 : Int) (σ : ZSto) : Prop := R32 x1 → R32 x2 → ZOk n σ → Zn X M_X10_property d n P 5 [some (.ref (zB X + 73)), some (iV x1), some (iV x2), none, none, none, none, none, none, none, none] [] σ
def L_X10_property_36 (X : ZX) (d n : Nat) (P : Option Value → ZSto → Prop) (x1 : Int) (x2 : Int) (σ : ZSto) : Prop := R32 x1 → R32 x2 → ZOk n σ → Zn X M_X10_property d n P 36 [some (.ref (zB X + 73)), some (iV x1), some (iV x2), none, none, none, none, none, none, none, none] [] σ
def L_X10_property_52 (X : ZX) (d n : Nat) (P : Option Value → ZSto → Prop) (x1 : Int) (x2 : Int) (x3 : Int) (σ : ZSto) : Prop := R32 x1 → R32 x2 → R32 x3 → ZOk n σ → Zn X M_X10_property d n P 52 [some (.ref (zB X + 73)), some (iV x1), some (iV x2), some (iV x3), none, none, none, none, none, none, none] [] σ
def L_X10_property_57 (X : ZX) (d n : Nat) (P : Option Value → ZSto → Prop) (x1 : Int) (x2 : Int) (x3 : Int) (x20 : Int) (σ : ZSto) : Prop := R32 x1 → R32 x2 → R32 x3 → R32 x20 → ZOk n σ → Zn X M_X10_property d n P 57 [some (.ref (zB X + 73)), some (iV x1), some (iV x2), some (iV x3), none, none, none, none, none, none, none] [iV x20] σ
def L_X10_property_70 (X : ZX) (d n : Nat) (P : Option Value → ZSto → Prop) (x1 : Int) (x2 : Int) (x3 : Int) (x4 : Int) (σ : ZSto) : Prop := R32 x1 → R32 x2 → R32 x3 → R32 x4 → ZOk n σ → Zn X M_X10_property d n P 70 [some (.ref (zB X + 73)), some (iV x1), some (iV x2), some (iV x3), some (iV x4), none, none, none, none, none, none] [] σ
def L_X10_property_75 (X : ZX) (d n : Nat) (P : Option Value → ZSto → Prop) (x1 : Int) (x2 : Int) (x3 : Int) (x4 : Int) (x20 : Int) (σ : ZSto) : Prop := R32 x1 → R32 x2 → R32 x3 → R32 x4 → R32 x20 → ZOk n σ → Zn X M_X10_property d n P 75 [some (.ref (zB X + 73)), some (iV x1), some (iV x2), some (iV x3), some (iV x4), none, none, none, none, none, none] [iV x20] σ
def L_X10_property_88 (X : ZX) (d n : Nat) (P : Option Value → ZSto → Prop) (x1 : Int) (x2 : Int) (x3 : Int) (x4 : Int) (x5 : Int) (x20 : Int) (σ : ZSto) : Prop := R32 x1 → R32 x2 → R32 x3 → R32 x4 → R32 x5 → R32 x20 → ZOk n σ → Zn X M_X10_property d n P 88 [some (.ref (zB X + 73)), some (iV x1), some (iV x2), some (iV x3), some (iV x4), some (iV x5), none, none, none, none, none] [iV x20] σ
def L_X10_property_103 (X : ZX) (d n : Nat) (P : Option Value → ZSto → Prop) (x1 : Int) (x2 : Int) (x3 : Int) (x4 : Int) (x5 : Int) (x6 : Int) (σ : ZSto) : Prop := R32 x1 → R32 x2 → R32 x3 → R32 x4 → R32 x5 → R32 x6 → ZOk n σ → Zn X M_X10_property d n P 103 [some (.ref (zB X + 73)), some (iV x1), some (iV x2), some (iV x3), some (iV x4), some (iV x5), some (iV x6), none, none, none, none] [] σ
def L_X10_property_118 (X : ZX) (d n : Nat) (P : Option Value → ZSto → Prop) (x1 : Int) (x2 : Int) (x3 : Int) (x4 : Int) (x6 : Int) (σ : ZSto) : Prop := R32 x1 → R32 x2 → R32 x3 → R32 x4 → R32 x6 → ZOk n σ → Zn X M_X10_property d n P 118 [some (.ref (zB X + 73)), some (iV x1), some (iV x2), some (iV x3), some (iV x4), none, some (iV x6), none, none, none, none] [] σ
def L_X10_property_133 (X : ZX) (d n : Nat) (P : Option Value → ZSto → Prop) (x1 : Int) (x2 : Int) (x3 : Int) (x4 : Int) (σ : ZSto) : Prop := R32 x1 → R32 x2 → R32 x3 → R32 x4 → ZOk n σ → Zn X M_X10_property d n P 133 [some (.ref (zB X + 73)), some (iV x1), some (iV x2), some (iV x3), some (iV x4), none, none, none, none, none, none] [] σ
def L_X10_property_148 (X : ZX) (d n : Nat) (P : Option Value → ZSto → Prop) (x1 : Int) (x2 : Int) (x3 : Int) (σ : ZSto) : Prop := R32 x1 → R32 x2 → R32 x3 → ZOk n σ → Zn X M_X10_property d n P 148 [some (.ref (zB X + 73)), some (iV x1), some (iV x2), some (iV x3), none, none, none, none, none, none, none] [] σ
def L_X10_property_218 (X : ZX) (d n : Nat) (P : Option Value → ZSto → Prop) (x1 : Int) (x3 : Int) (x8 : Int) (σ : ZSto) : Prop := R32 x1 → R32 x3 → R32 x8 → ZOk n σ → Zn X M_X10_property d n P 218 [some (.ref (zB X + 73)), some (iV x1), none, some (iV x3), none, none, none, none, some (iV x8), none, none] [] σ
def L_X10_property_249 (X : ZX) (d n : Nat) (P : Option Value → ZSto → Prop) (x1 : Int) (x3 : Int) (x8 : Int) (x9 : Int) (x10 : Int) (σ : ZSto) : Prop := R32 x1 → R32 x3 → R32 x8 → R32 x9 → R32 x10 → ZOk n σ → Zn X M_X10_property d n P 249 [some (.ref (zB X + 73)), some (iV x1), none, some (iV x3), none, none, none, none, some (iV x8), some (iV x9), some (iV x10)] [] σ
theorem w_X10_property {X : ZX} {d n : Nat} {P : Int → ZSto → Prop} {x1 : Int} {σ : ZSto} (hn : 104 ≤ n)  (hx1 : R32 x1)
    (h : (∀ y1 : Int, y1 = gI σ 73 24 → L_X10_property_5 X d n (zpZ P) x1 y1 σ)) :
    ZkZ X M_X10_property (d + 1) n [.ref (zB X + 73), iV x1] σ P := by
  refine zk_of (ls := [some (.ref (zB X + 73)), some (iV x1), none, none, none, none, none, none, none, none, none]) pl_RX10 (Nat.le_of_ble_eq_true rfl) rfl (fun k0 => ?_)
  unfold Zn
  refine r_aload_n dX10_property_0 rfl ?_
  refine r_getI dX10_property_1 kf_RX10_201 (zlt hn rfl) sh_73 (Or.inl rfl) rfl ?_
  refine r_name (fun y1 e2 => ?_)
  have h3 := h y1 e2
  refine r_istore_n dX10_property_4 rfl rfl ?_
  exact r_mask [true, true, true, false, false, false, false, false, false, false, false] rfl (h3 hx1 (by rw [e2]; exact (k0.2.1 _ _)) k0)
theorem b_X10_property_5 {X : ZX} {d n : Nat} {P : Int → ZSto → Prop} {x1 : Int} {x2 : Int} {σ : ZSto} (hn : 104 ≤ n) 
    (h : ZkI X M_X10_see d n [.ref (zB X + 73)] σ (fun v1 σ2 => (v1 < 65 → L_X10_property_36 X d n (zpZ P) x1 x2 σ2) ∧ (¬ (v1 < 65) → ZkI X M_X10_see d n [.ref (zB X + 73)] σ2 (fun v10 σ11 => (90 < v10 → L_X10_property_36 X d n (zpZ P) x1 x2 σ11) ∧ (¬ (90 < v10) → R32 ((gI σ11 73 24) + 1) ∧ L_X10_property_5 X d n (zpZ P) x1 x2 (sI σ11 73 24 ((gI σ11 73 24) + 1))))))) :
    L_X10_property_5 X d n (zpZ P) x1 x2 σ := by
  intro hx1 hx2 k0
  unfold Zn
  refine r_aload_n dX10_property_5 rfl ?_
  refine n_callV (N := M_X10_see) (As := []) (st := []) dX10_property_6 mk_X10_see km_RX10_204 kd_X10_see rfl (zlt hn rfl) sh_73 (q := (RX10, TX10, 52)) rfl rfl (zFits_rm d n n n (Nat.le_refl n)) (Nat.le_of_ble_eq_true rfl) rfl k0 h ?_
  rintro _ σ2 k3 ⟨v1, rfl, h4, h5⟩
  change Zm _ _ _ _ _ _ 9 _ [iV v1] _
  refine r_bipush dX10_property_9 rfl ?_
  refine r_icmp_lt (t := 36) dX10_property_11 rfl h4 (r32c rfl) (fun c6 => ?_) (fun c7 => ?_)
  · have h8 := h5.1 c6
    exact r_mask [true, true, true, false, false, false, false, false, false, false, false] rfl (h8 hx1 hx2 k3)
  · have h9 := h5.2 c7
    refine r_aload_n dX10_property_14 rfl ?_
    refine n_callV (N := M_X10_see) (As := []) (st := []) dX10_property_15 mk_X10_see km_RX10_204 kd_X10_see rfl (zlt hn rfl) sh_73 (q := (RX10, TX10, 52)) rfl rfl (zFits_rm d n n n (Nat.le_refl n)) (Nat.le_of_ble_eq_true rfl) rfl k3 h9 ?_
    rintro _ σ11 k12 ⟨v10, rfl, h13, h14⟩
    change Zm _ _ _ _ _ _ 18 _ [iV v10] _
    refine r_bipush dX10_property_18 rfl ?_
    refine r_icmp_gt (t := 36) dX10_property_20 rfl h13 (r32c rfl) (fun c15 => ?_) (fun c16 => ?_)
    · have h17 := h14.1 c15
      exact r_mask [true, true, true, false, false, false, false, false, false, false, false] rfl (h17 hx1 hx2 k12)
    · have h18 := h14.2 c16
      refine r_aload_n dX10_property_23 rfl ?_
      refine r_dup dX10_property_24 rfl ?_
      refine r_getI dX10_property_25 kf_RX10_201 (zlt hn rfl) sh_73 (Or.inl rfl) rfl ?_
      refine r_iconst dX10_property_28 ?_
      refine r_iadd dX10_property_29 ?_
      obtain ⟨h19, h20⟩ := h18
      refine r_putI dX10_property_30 kf_RX10_201 (zlt hn rfl) sh_73 rfl (Or.inl rfl) ?_
      have k21 := zok_o (i := 24) (x := (gI σ11 73 24) + 1) k12 sh_73 h19
      refine r_goto (t := 5) dX10_property_33 rfl ?_
      exact r_mask [true, true, true, false, false, false, false, false, false, false, false] rfl (h20 hx1 hx2 k21)
theorem b_X10_property_36 {X : ZX} {d n : Nat} {P : Int → ZSto → Prop} {x1 : Int} {x2 : Int} {σ : ZSto} (hn : 104 ≤ n) 
    (h : ZkI X M_X10_nameFrom d n [.ref (zB X + 73), iV x2] σ (fun v1 σ2 => (v1 = 1 → L_X10_property_52 X d n (zpZ P) x1 x2 v1 σ2) ∧ (¬ (v1 = 1) → (¬ v1 = 2 → L_X10_property_57 X d n (zpZ P) x1 x2 v1 0 σ2) ∧ (v1 = 2 → L_X10_property_52 X d n (zpZ P) x1 x2 v1 σ2)))) :
    L_X10_property_36 X d n (zpZ P) x1 x2 σ := by
  intro hx1 hx2 k0
  unfold Zn
  refine r_aload_n dX10_property_36 rfl ?_
  refine r_iload_n dX10_property_37 rfl ?_
  refine n_callV (N := M_X10_nameFrom) (As := [iV x2]) (st := []) dX10_property_38 mk_X10_nameFrom km_RX10_245 kd_X10_nameFrom rfl (zlt hn rfl) sh_73 (q := (RX10, TX10, 52)) rfl rfl (zFits_rm d n n n (Nat.le_refl n)) (Nat.le_of_ble_eq_true rfl) rfl k0 h ?_
  rintro _ σ2 k3 ⟨v1, rfl, h4, h5⟩
  change Zm _ _ _ _ _ _ 41 _ [iV v1] _
  refine r_istore_n dX10_property_41 rfl rfl ?_
  refine r_iload_n dX10_property_42 rfl ?_
  refine r_iconst dX10_property_43 ?_
  refine r_icmp_eq (t := 52) dX10_property_44 rfl h4 (r32c rfl) (fun c6 => ?_) (fun c7 => ?_)
  · have h8 := h5.1 c6
    exact r_mask [true, true, true, true, false, false, false, false, false, false, false] rfl (h8 hx1 hx2 h4 k3)
  · have h9 := h5.2 c7
    refine r_iload_n dX10_property_47 rfl ?_
    refine r_iconst dX10_property_48 ?_
    refine r_icmp_ne (t := 56) dX10_property_49 rfl h4 (r32c rfl) (fun c10 => ?_) (fun c11 => ?_)
    · have h12 := h9.1 c10
      refine r_iconst dX10_property_56 ?_
      exact r_mask [true, true, true, true, false, false, false, false, false, false, false] rfl (h12 hx1 hx2 h4 (r32c rfl) k3)
    · have h13 := h9.2 c11
      exact r_mask [true, true, true, true, false, false, false, false, false, false, false] rfl (h13 hx1 hx2 h4 k3)
theorem b_X10_property_52 {X : ZX} {d n : Nat} {P : Int → ZSto → Prop} {x1 : Int} {x2 : Int} {x3 : Int} {σ : ZSto} (hn : 104 ≤ n) 
    (h : L_X10_property_57 X d n (zpZ P) x1 x2 x3 1 σ) :
    L_X10_property_52 X d n (zpZ P) x1 x2 x3 σ := by
  intro hx1 hx2 hx3 k0
  unfold Zn
  refine r_iconst dX10_property_52 ?_
  refine r_goto (t := 57) dX10_property_53 rfl ?_
  exact r_mask [true, true, true, true, false, false, false, false, false, false, false] rfl (h hx1 hx2 hx3 (r32c rfl) k0)
theorem b_X10_property_57 {X : ZX} {d n : Nat} {P : Int → ZSto → Prop} {x1 : Int} {x2 : Int} {x3 : Int} {x20 : Int} {σ : ZSto} (hn : 104 ≤ n) 
    (h : (x3 = 4 → L_X10_property_70 X d n (zpZ P) x1 x2 x3 x20 σ) ∧ (¬ (x3 = 4) → (¬ x3 = 8 → L_X10_property_75 X d n (zpZ P) x1 x2 x3 x20 0 σ) ∧ (x3 = 8 → L_X10_property_70 X d n (zpZ P) x1 x2 x3 x20 σ))) :
    L_X10_property_57 X d n (zpZ P) x1 x2 x3 x20 σ := by
  intro hx1 hx2 hx3 hx20 k0
  unfold Zn
  refine r_istore dX10_property_57 rfl rfl ?_
  refine r_iload_n dX10_property_59 rfl ?_
  refine r_iconst dX10_property_60 ?_
  refine r_icmp_eq (t := 70) dX10_property_61 rfl hx3 (r32c rfl) (fun c1 => ?_) (fun c2 => ?_)
  · have h3 := h.1 c1
    exact r_mask [true, true, true, true, true, false, false, false, false, false, false] rfl (h3 hx1 hx2 hx3 hx20 k0)
  · have h4 := h.2 c2
    refine r_iload_n dX10_property_64 rfl ?_
    refine r_bipush dX10_property_65 rfl ?_
    refine r_icmp_ne (t := 74) dX10_property_67 rfl hx3 (r32c rfl) (fun c5 => ?_) (fun c6 => ?_)
    · have h7 := h4.1 c5
      refine r_iconst dX10_property_74 ?_
      exact r_mask [true, true, true, true, true, false, false, false, false, false, false] rfl (h7 hx1 hx2 hx3 hx20 (r32c rfl) k0)
    · have h8 := h4.2 c6
      exact r_mask [true, true, true, true, true, false, false, false, false, false, false] rfl (h8 hx1 hx2 hx3 hx20 k0)
theorem b_X10_property_70 {X : ZX} {d n : Nat} {P : Int → ZSto → Prop} {x1 : Int} {x2 : Int} {x3 : Int} {x4 : Int} {σ : ZSto} (hn : 104 ≤ n) 
    (h : L_X10_property_75 X d n (zpZ P) x1 x2 x3 x4 1 σ) :
    L_X10_property_70 X d n (zpZ P) x1 x2 x3 x4 σ := by
  intro hx1 hx2 hx3 hx4 k0
  unfold Zn
  refine r_iconst dX10_property_70 ?_
  refine r_goto (t := 75) dX10_property_71 rfl ?_
  exact r_mask [true, true, true, true, true, false, false, false, false, false, false] rfl (h hx1 hx2 hx3 hx4 (r32c rfl) k0)
theorem b_X10_property_75 {X : ZX} {d n : Nat} {P : Int → ZSto → Prop} {x1 : Int} {x2 : Int} {x3 : Int} {x4 : Int} {x20 : Int} {σ : ZSto} (hn : 104 ≤ n) 
    (h : (x3 < 16 → L_X10_property_88 X d n (zpZ P) x1 x2 x3 x4 x20 0 σ) ∧ (¬ (x3 < 16) → L_X10_property_88 X d n (zpZ P) x1 x2 x3 x4 x20 1 σ)) :
    L_X10_property_75 X d n (zpZ P) x1 x2 x3 x4 x20 σ := by
  intro hx1 hx2 hx3 hx4 hx20 k0
  unfold Zn
  refine r_istore dX10_property_75 rfl rfl ?_
  refine r_iload_n dX10_property_77 rfl ?_
  refine r_bipush dX10_property_78 rfl ?_
  refine r_icmp_lt (t := 87) dX10_property_80 rfl hx3 (r32c rfl) (fun c1 => ?_) (fun c2 => ?_)
  · have h3 := h.1 c1
    refine r_iconst dX10_property_87 ?_
    exact r_mask [true, true, true, true, true, true, false, false, false, false, false] rfl (h3 hx1 hx2 hx3 hx4 hx20 (r32c rfl) k0)
  · have h4 := h.2 c2
    refine r_iconst dX10_property_83 ?_
    refine r_goto (t := 88) dX10_property_84 rfl ?_
    exact r_mask [true, true, true, true, true, true, false, false, false, false, false] rfl (h4 hx1 hx2 hx3 hx4 hx20 (r32c rfl) k0)
theorem b_X10_property_88 {X : ZX} {d n : Nat} {P : Int → ZSto → Prop} {x1 : Int} {x2 : Int} {x3 : Int} {x4 : Int} {x5 : Int} {x20 : Int} {σ : ZSto} (hn : 104 ≤ n) 
    (h : (x3 ≤ 0 → L_X10_property_103 X d n (zpZ P) x1 x2 x3 x4 x5 x20 σ) ∧ (¬ (x3 ≤ 0) → (¬ andI (gI σ 73 29) x3 = 0 → ZkZ X M_X10_fault d n [.ref (zB X + 73), iV 2, iV x2] σ (fun v9 σ10 => P v9 σ10)) ∧ (andI (gI σ 73 29) x3 = 0 → L_X10_property_103 X d n (zpZ P) x1 x2 x3 x4 x5 x20 σ))) :
    L_X10_property_88 X d n (zpZ P) x1 x2 x3 x4 x5 x20 σ := by
  intro hx1 hx2 hx3 hx4 hx5 hx20 k0
  unfold Zn
  refine r_istore dX10_property_88 rfl rfl ?_
  refine r_iload_n dX10_property_90 rfl ?_
  refine r_if_le (t := 103) dX10_property_91 rfl hx3  (fun c1 => ?_) (fun c2 => ?_)
  · have h3 := h.1 c1
    exact r_mask [true, true, true, true, true, true, true, false, false, false, false] rfl (h3 hx1 hx2 hx3 hx4 hx5 hx20 k0)
  · have h4 := h.2 c2
    refine r_aload_n dX10_property_94 rfl ?_
    refine r_getI dX10_property_95 kf_RX10_235 (zlt hn rfl) sh_73 (Or.inl rfl) rfl ?_
    refine r_iload_n dX10_property_98 rfl ?_
    refine r_iand dX10_property_99 ?_
    refine r_if_ne (t := 163) dX10_property_100 rfl (r32_and _ _)  (fun c5 => ?_) (fun c6 => ?_)
    · have h7 := h4.1 c5
      refine r_iconst dX10_property_163 ?_
      refine r_goto (t := 168) dX10_property_164 rfl ?_
      refine r_istore dX10_property_168 rfl rfl ?_
      refine r_iload dX10_property_170 rfl ?_
      refine r_if_eq (t := 182) dX10_property_172 rfl (r32c rfl)  (fun c8 => absurd c8 (by decide)) (fun _ => ?_)
      refine r_aload_n dX10_property_175 rfl ?_
      refine r_iconst dX10_property_176 ?_
      refine r_iload_n dX10_property_177 rfl ?_
      refine n_callV (N := M_X10_fault) (As := [iV 2, iV x2]) (st := []) dX10_property_178 mk_X10_fault km_RX10_229 kd_X10_fault rfl (zlt hn rfl) sh_73 (q := (RX10, TX10, 52)) rfl rfl (zFits_rm d n n n (Nat.le_refl n)) (Nat.le_of_ble_eq_true rfl) rfl k0 h7 ?_
      rintro _ σ10 k11 ⟨v9, rfl, h12, h13⟩
      change Zm _ _ _ _ _ _ 181 _ [iV v9] _
      exact r_zreturn dX10_property_181 rfl h12 ⟨k11, _, rfl, h12, h13⟩
    · have h14 := h4.2 c6
      exact r_mask [true, true, true, true, true, true, true, false, false, false, false] rfl (h14 hx1 hx2 hx3 hx4 hx5 hx20 k0)
theorem b_X10_property_103 {X : ZX} {d n : Nat} {P : Int → ZSto → Prop} {x1 : Int} {x2 : Int} {x3 : Int} {x4 : Int} {x5 : Int} {x6 : Int} {σ : ZSto} (hn : 104 ≤ n) 
    (h : (x5 = 0 → L_X10_property_118 X d n (zpZ P) x1 x2 x3 x4 x6 σ) ∧ (¬ (x5 = 0) → (¬ andI (gI σ 73 29) 124 = 0 → ZkZ X M_X10_fault d n [.ref (zB X + 73), iV 2, iV x2] σ (fun v9 σ10 => P v9 σ10)) ∧ (andI (gI σ 73 29) 124 = 0 → L_X10_property_118 X d n (zpZ P) x1 x2 x3 x4 x6 σ))) :
    L_X10_property_103 X d n (zpZ P) x1 x2 x3 x4 x5 x6 σ := by
  intro hx1 hx2 hx3 hx4 hx5 hx6 k0
  unfold Zn
  refine r_iload dX10_property_103 rfl ?_
  refine r_if_eq (t := 118) dX10_property_105 rfl hx5  (fun c1 => ?_) (fun c2 => ?_)
  · have h3 := h.1 c1
    exact r_mask [true, true, true, true, true, false, true, false, false, false, false] rfl (h3 hx1 hx2 hx3 hx4 hx6 k0)
  · have h4 := h.2 c2
    refine r_aload_n dX10_property_108 rfl ?_
    refine r_getI dX10_property_109 kf_RX10_235 (zlt hn rfl) sh_73 (Or.inl rfl) rfl ?_
    refine r_bipush dX10_property_112 rfl ?_
    refine r_iand dX10_property_114 ?_
    refine r_if_ne (t := 163) dX10_property_115 rfl (r32_and _ _)  (fun c5 => ?_) (fun c6 => ?_)
    · have h7 := h4.1 c5
      refine r_iconst dX10_property_163 ?_
      refine r_goto (t := 168) dX10_property_164 rfl ?_
      refine r_istore dX10_property_168 rfl rfl ?_
      refine r_iload dX10_property_170 rfl ?_
      refine r_if_eq (t := 182) dX10_property_172 rfl (r32c rfl)  (fun c8 => absurd c8 (by decide)) (fun _ => ?_)
      refine r_aload_n dX10_property_175 rfl ?_
      refine r_iconst dX10_property_176 ?_
      refine r_iload_n dX10_property_177 rfl ?_
      refine n_callV (N := M_X10_fault) (As := [iV 2, iV x2]) (st := []) dX10_property_178 mk_X10_fault km_RX10_229 kd_X10_fault rfl (zlt hn rfl) sh_73 (q := (RX10, TX10, 52)) rfl rfl (zFits_rm d n n n (Nat.le_refl n)) (Nat.le_of_ble_eq_true rfl) rfl k0 h7 ?_
      rintro _ σ10 k11 ⟨v9, rfl, h12, h13⟩
      change Zm _ _ _ _ _ _ 181 _ [iV v9] _
      exact r_zreturn dX10_property_181 rfl h12 ⟨k11, _, rfl, h12, h13⟩
    · have h14 := h4.2 c6
      exact r_mask [true, true, true, true, true, false, true, false, false, false, false] rfl (h14 hx1 hx2 hx3 hx4 hx6 k0)
theorem b_X10_property_118 {X : ZX} {d n : Nat} {P : Int → ZSto → Prop} {x1 : Int} {x2 : Int} {x3 : Int} {x4 : Int} {x6 : Int} {σ : ZSto} (hn : 104 ≤ n) 
    (h : (x6 = 0 → L_X10_property_133 X d n (zpZ P) x1 x2 x3 x4 σ) ∧ (¬ (x6 = 0) → (¬ andI (gI σ 73 29) 12 = 0 → ZkZ X M_X10_fault d n [.ref (zB X + 73), iV 2, iV x2] σ (fun v9 σ10 => P v9 σ10)) ∧ (andI (gI σ 73 29) 12 = 0 → L_X10_property_133 X d n (zpZ P) x1 x2 x3 x4 σ))) :
    L_X10_property_118 X d n (zpZ P) x1 x2 x3 x4 x6 σ := by
  intro hx1 hx2 hx3 hx4 hx6 k0
  unfold Zn
  refine r_iload dX10_property_118 rfl ?_
  refine r_if_eq (t := 133) dX10_property_120 rfl hx6  (fun c1 => ?_) (fun c2 => ?_)
  · have h3 := h.1 c1
    exact r_mask [true, true, true, true, true, false, false, false, false, false, false] rfl (h3 hx1 hx2 hx3 hx4 k0)
  · have h4 := h.2 c2
    refine r_aload_n dX10_property_123 rfl ?_
    refine r_getI dX10_property_124 kf_RX10_235 (zlt hn rfl) sh_73 (Or.inl rfl) rfl ?_
    refine r_bipush dX10_property_127 rfl ?_
    refine r_iand dX10_property_129 ?_
    refine r_if_ne (t := 163) dX10_property_130 rfl (r32_and _ _)  (fun c5 => ?_) (fun c6 => ?_)
    · have h7 := h4.1 c5
      refine r_iconst dX10_property_163 ?_
      refine r_goto (t := 168) dX10_property_164 rfl ?_
      refine r_istore dX10_property_168 rfl rfl ?_
      refine r_iload dX10_property_170 rfl ?_
      refine r_if_eq (t := 182) dX10_property_172 rfl (r32c rfl)  (fun c8 => absurd c8 (by decide)) (fun _ => ?_)
      refine r_aload_n dX10_property_175 rfl ?_
      refine r_iconst dX10_property_176 ?_
      refine r_iload_n dX10_property_177 rfl ?_
      refine n_callV (N := M_X10_fault) (As := [iV 2, iV x2]) (st := []) dX10_property_178 mk_X10_fault km_RX10_229 kd_X10_fault rfl (zlt hn rfl) sh_73 (q := (RX10, TX10, 52)) rfl rfl (zFits_rm d n n n (Nat.le_refl n)) (Nat.le_of_ble_eq_true rfl) rfl k0 h7 ?_
      rintro _ σ10 k11 ⟨v9, rfl, h12, h13⟩
      change Zm _ _ _ _ _ _ 181 _ [iV v9] _
      exact r_zreturn dX10_property_181 rfl h12 ⟨k11, _, rfl, h12, h13⟩
    · have h14 := h4.2 c6
      exact r_mask [true, true, true, true, true, false, false, false, false, false, false] rfl (h14 hx1 hx2 hx3 hx4 k0)
theorem b_X10_property_133 {X : ZX} {d n : Nat} {P : Int → ZSto → Prop} {x1 : Int} {x2 : Int} {x3 : Int} {x4 : Int} {σ : ZSto} (hn : 104 ≤ n) 
    (h : (x4 = 0 → L_X10_property_148 X d n (zpZ P) x1 x2 x3 σ) ∧ (¬ (x4 = 0) → (0 ≤ x1 ∧ x1 < 500) ∧ (¬ gI σ 74 x1.toNat = (-1) → ZkZ X M_X10_fault d n [.ref (zB X + 73), iV 2, iV x2] σ (fun v11 σ12 => P v11 σ12)) ∧ (gI σ 74 x1.toNat = (-1) → L_X10_property_148 X d n (zpZ P) x1 x2 x3 σ))) :
    L_X10_property_133 X d n (zpZ P) x1 x2 x3 x4 σ := by
  intro hx1 hx2 hx3 hx4 k0
  unfold Zn
  refine r_iload dX10_property_133 rfl ?_
  refine r_if_eq (t := 148) dX10_property_135 rfl hx4  (fun c1 => ?_) (fun c2 => ?_)
  · have h3 := h.1 c1
    exact r_mask [true, true, true, true, false, false, false, false, false, false, false] rfl (h3 hx1 hx2 hx3 k0)
  · have h4 := h.2 c2
    refine r_aload_n dX10_property_138 rfl ?_
    refine r_getP (a := 74) dX10_property_139 kf_RX10_7 (zlt hn rfl) sh_73 rfl (k0.1 _ _ _ (zlt hn rfl) p_73_0) ?_
    refine r_iload_n dX10_property_142 rfl ?_
    obtain ⟨h5, h6⟩ := h4
    refine r_ialoadE dX10_property_143 (zlt hn rfl) sh_74 h5.1 h5.2 rfl ?_
    refine r_iconst dX10_property_144 ?_
    refine r_icmp_ne (t := 163) dX10_property_145 rfl (k0.2.1 _ _) (r32c rfl) (fun c7 => ?_) (fun c8 => ?_)
    · have h9 := h6.1 c7
      refine r_iconst dX10_property_163 ?_
      refine r_goto (t := 168) dX10_property_164 rfl ?_
      refine r_istore dX10_property_168 rfl rfl ?_
      refine r_iload dX10_property_170 rfl ?_
      refine r_if_eq (t := 182) dX10_property_172 rfl (r32c rfl)  (fun c10 => absurd c10 (by decide)) (fun _ => ?_)
      refine r_aload_n dX10_property_175 rfl ?_
      refine r_iconst dX10_property_176 ?_
      refine r_iload_n dX10_property_177 rfl ?_
      refine n_callV (N := M_X10_fault) (As := [iV 2, iV x2]) (st := []) dX10_property_178 mk_X10_fault km_RX10_229 kd_X10_fault rfl (zlt hn rfl) sh_73 (q := (RX10, TX10, 52)) rfl rfl (zFits_rm d n n n (Nat.le_refl n)) (Nat.le_of_ble_eq_true rfl) rfl k0 h9 ?_
      rintro _ σ12 k13 ⟨v11, rfl, h14, h15⟩
      change Zm _ _ _ _ _ _ 181 _ [iV v11] _
      exact r_zreturn dX10_property_181 rfl h14 ⟨k13, _, rfl, h14, h15⟩
    · have h16 := h6.2 c8
      exact r_mask [true, true, true, true, false, false, false, false, false, false, false] rfl (h16 hx1 hx2 hx3 k0)
theorem b_X10_property_148 {X : ZX} {d n : Nat} {P : Int → ZSto → Prop} {x1 : Int} {x2 : Int} {x3 : Int} {σ : ZSto} (hn : 104 ≤ n) 
    (h : (¬ x3 = 1 → ZkV X M_X10_blanks d n [.ref (zB X + 73)] (sI σ 73 29 (orI (gI σ 73 29) x3)) (fun σ7 => ZkI X M_X10_see d n [.ref (zB X + 73)] σ7 (fun v11 σ12 => (v11 = 91 → L_X10_property_218 X d n (zpZ P) x1 x3 0 σ12) ∧ (¬ (v11 = 91) → ZkZ X M_X10_fault d n [.ref (zB X + 73), iV 1, iV (gI σ12 73 24)] σ12 (fun v20 σ21 => P v20 σ21))))) ∧ (x3 = 1 → (andI (gI σ 73 29) 124 = 0 → ZkV X M_X10_blanks d n [.ref (zB X + 73)] (sI σ 73 29 (orI (gI σ 73 29) x3)) (fun σ32 => ZkI X M_X10_see d n [.ref (zB X + 73)] σ32 (fun v36 σ37 => (v36 = 91 → L_X10_property_218 X d n (zpZ P) x1 x3 0 σ37) ∧ (¬ (v36 = 91) → ZkZ X M_X10_fault d n [.ref (zB X + 73), iV 1, iV (gI σ37 73 24)] σ37 (fun v45 σ46 => P v45 σ46))))) ∧ (¬ (andI (gI σ 73 29) 124 = 0) → ZkZ X M_X10_fault d n [.ref (zB X + 73), iV 2, iV x2] σ (fun v52 σ53 => P v52 σ53)))) :
    L_X10_property_148 X d n (zpZ P) x1 x2 x3 σ := by
  intro hx1 hx2 hx3 k0
  unfold Zn
  refine r_iload_n dX10_property_148 rfl ?_
  refine r_iconst dX10_property_149 ?_
  refine r_icmp_ne (t := 167) dX10_property_150 rfl hx3 (r32c rfl) (fun c1 => ?_) (fun c2 => ?_)
  · have h3 := h.1 c1
    refine r_iconst dX10_property_167 ?_
    refine r_istore dX10_property_168 rfl rfl ?_
    refine r_iload dX10_property_170 rfl ?_
    refine r_if_eq (t := 182) dX10_property_172 rfl (r32c rfl)  (fun _ => ?_) (fun c4 => absurd c4 (by decide))
    refine r_aload_n dX10_property_182 rfl ?_
    refine r_dup dX10_property_183 rfl ?_
    refine r_getI dX10_property_184 kf_RX10_235 (zlt hn rfl) sh_73 (Or.inl rfl) rfl ?_
    refine r_iload_n dX10_property_187 rfl ?_
    refine r_ior dX10_property_188 ?_
    refine r_putI dX10_property_189 kf_RX10_235 (zlt hn rfl) sh_73 rfl (Or.inl rfl) ?_
    have k5 := zok_o (i := 29) (x := orI (gI σ 73 29) x3) k0 sh_73 (r32_or _ _)
    refine r_iconst dX10_property_192 ?_
    refine r_istore dX10_property_193 rfl rfl ?_
    refine r_aload_n dX10_property_195 rfl ?_
    refine n_callV (N := M_X10_blanks) (As := []) (st := []) dX10_property_196 mk_X10_blanks km_RX10_226 kd_X10_blanks rfl (zlt hn rfl) sh_73 (q := (RX10, TX10, 52)) rfl rfl (zFits_rm d n n n (Nat.le_refl n)) (Nat.le_of_ble_eq_true rfl) rfl k5 h3 ?_
    rintro _ σ7 k8 ⟨rfl, h10⟩
    change Zm _ _ _ _ _ _ 199 _ [] _
    refine r_aload_n dX10_property_199 rfl ?_
    refine n_callV (N := M_X10_see) (As := []) (st := []) dX10_property_200 mk_X10_see km_RX10_204 kd_X10_see rfl (zlt hn rfl) sh_73 (q := (RX10, TX10, 52)) rfl rfl (zFits_rm d n n n (Nat.le_refl n)) (Nat.le_of_ble_eq_true rfl) rfl k8 h10 ?_
    rintro _ σ12 k13 ⟨v11, rfl, h14, h15⟩
    change Zm _ _ _ _ _ _ 203 _ [iV v11] _
    refine r_bipush dX10_property_203 rfl ?_
    refine r_icmp_eq (t := 218) dX10_property_205 rfl h14 (r32c rfl) (fun c16 => ?_) (fun c17 => ?_)
    · have h18 := h15.1 c16
      exact r_mask [true, true, false, true, false, false, false, false, true, false, false] rfl (h18 hx1 hx3 (r32c rfl) k13)
    · have h19 := h15.2 c17
      refine r_aload_n dX10_property_208 rfl ?_
      refine r_iconst dX10_property_209 ?_
      refine r_aload_n dX10_property_210 rfl ?_
      refine r_getI dX10_property_211 kf_RX10_201 (zlt hn rfl) sh_73 (Or.inl rfl) rfl ?_
      refine n_callV (N := M_X10_fault) (As := [iV 1, iV (gI σ12 73 24)]) (st := []) dX10_property_214 mk_X10_fault km_RX10_229 kd_X10_fault rfl (zlt hn rfl) sh_73 (q := (RX10, TX10, 52)) rfl rfl (zFits_rm d n n n (Nat.le_refl n)) (Nat.le_of_ble_eq_true rfl) rfl k13 h19 ?_
      rintro _ σ21 k22 ⟨v20, rfl, h23, h24⟩
      change Zm _ _ _ _ _ _ 217 _ [iV v20] _
      exact r_zreturn dX10_property_217 rfl h23 ⟨k22, _, rfl, h23, h24⟩
  · have h25 := h.2 c2
    refine r_aload_n dX10_property_153 rfl ?_
    refine r_getI dX10_property_154 kf_RX10_235 (zlt hn rfl) sh_73 (Or.inl rfl) rfl ?_
    refine r_bipush dX10_property_157 rfl ?_
    refine r_iand dX10_property_159 ?_
    refine r_if_eq (t := 167) dX10_property_160 rfl (r32_and _ _)  (fun c26 => ?_) (fun c27 => ?_)
    · have h28 := h25.1 c26
      refine r_iconst dX10_property_167 ?_
      refine r_istore dX10_property_168 rfl rfl ?_
      refine r_iload dX10_property_170 rfl ?_
      refine r_if_eq (t := 182) dX10_property_172 rfl (r32c rfl)  (fun _ => ?_) (fun c29 => absurd c29 (by decide))
      refine r_aload_n dX10_property_182 rfl ?_
      refine r_dup dX10_property_183 rfl ?_
      refine r_getI dX10_property_184 kf_RX10_235 (zlt hn rfl) sh_73 (Or.inl rfl) rfl ?_
      refine r_iload_n dX10_property_187 rfl ?_
      refine r_ior dX10_property_188 ?_
      refine r_putI dX10_property_189 kf_RX10_235 (zlt hn rfl) sh_73 rfl (Or.inl rfl) ?_
      have k30 := zok_o (i := 29) (x := orI (gI σ 73 29) x3) k0 sh_73 (r32_or _ _)
      refine r_iconst dX10_property_192 ?_
      refine r_istore dX10_property_193 rfl rfl ?_
      refine r_aload_n dX10_property_195 rfl ?_
      refine n_callV (N := M_X10_blanks) (As := []) (st := []) dX10_property_196 mk_X10_blanks km_RX10_226 kd_X10_blanks rfl (zlt hn rfl) sh_73 (q := (RX10, TX10, 52)) rfl rfl (zFits_rm d n n n (Nat.le_refl n)) (Nat.le_of_ble_eq_true rfl) rfl k30 h28 ?_
      rintro _ σ32 k33 ⟨rfl, h35⟩
      change Zm _ _ _ _ _ _ 199 _ [] _
      refine r_aload_n dX10_property_199 rfl ?_
      refine n_callV (N := M_X10_see) (As := []) (st := []) dX10_property_200 mk_X10_see km_RX10_204 kd_X10_see rfl (zlt hn rfl) sh_73 (q := (RX10, TX10, 52)) rfl rfl (zFits_rm d n n n (Nat.le_refl n)) (Nat.le_of_ble_eq_true rfl) rfl k33 h35 ?_
      rintro _ σ37 k38 ⟨v36, rfl, h39, h40⟩
      change Zm _ _ _ _ _ _ 203 _ [iV v36] _
      refine r_bipush dX10_property_203 rfl ?_
      refine r_icmp_eq (t := 218) dX10_property_205 rfl h39 (r32c rfl) (fun c41 => ?_) (fun c42 => ?_)
      · have h43 := h40.1 c41
        exact r_mask [true, true, false, true, false, false, false, false, true, false, false] rfl (h43 hx1 hx3 (r32c rfl) k38)
      · have h44 := h40.2 c42
        refine r_aload_n dX10_property_208 rfl ?_
        refine r_iconst dX10_property_209 ?_
        refine r_aload_n dX10_property_210 rfl ?_
        refine r_getI dX10_property_211 kf_RX10_201 (zlt hn rfl) sh_73 (Or.inl rfl) rfl ?_
        refine n_callV (N := M_X10_fault) (As := [iV 1, iV (gI σ37 73 24)]) (st := []) dX10_property_214 mk_X10_fault km_RX10_229 kd_X10_fault rfl (zlt hn rfl) sh_73 (q := (RX10, TX10, 52)) rfl rfl (zFits_rm d n n n (Nat.le_refl n)) (Nat.le_of_ble_eq_true rfl) rfl k38 h44 ?_
        rintro _ σ46 k47 ⟨v45, rfl, h48, h49⟩
        change Zm _ _ _ _ _ _ 217 _ [iV v45] _
        exact r_zreturn dX10_property_217 rfl h48 ⟨k47, _, rfl, h48, h49⟩
    · have h50 := h25.2 c27
      refine r_iconst dX10_property_163 ?_
      refine r_goto (t := 168) dX10_property_164 rfl ?_
      refine r_istore dX10_property_168 rfl rfl ?_
      refine r_iload dX10_property_170 rfl ?_
      refine r_if_eq (t := 182) dX10_property_172 rfl (r32c rfl)  (fun c51 => absurd c51 (by decide)) (fun _ => ?_)
      refine r_aload_n dX10_property_175 rfl ?_
      refine r_iconst dX10_property_176 ?_
      refine r_iload_n dX10_property_177 rfl ?_
      refine n_callV (N := M_X10_fault) (As := [iV 2, iV x2]) (st := []) dX10_property_178 mk_X10_fault km_RX10_229 kd_X10_fault rfl (zlt hn rfl) sh_73 (q := (RX10, TX10, 52)) rfl rfl (zFits_rm d n n n (Nat.le_refl n)) (Nat.le_of_ble_eq_true rfl) rfl k0 h50 ?_
      rintro _ σ53 k54 ⟨v52, rfl, h55, h56⟩
      change Zm _ _ _ _ _ _ 181 _ [iV v52] _
      exact r_zreturn dX10_property_181 rfl h55 ⟨k54, _, rfl, h55, h56⟩
theorem b_X10_property_218 {X : ZX} {d n : Nat} {P : Int → ZSto → Prop} {x1 : Int} {x3 : Int} {x8 : Int} {σ : ZSto} (hn : 104 ≤ n) 
    (h : ZkI X M_X10_see d n [.ref (zB X + 73)] σ (fun v1 σ2 => (¬ v1 = 91 → P 1 σ2) ∧ (v1 = 91 → (∀ y10 : Int, y10 = gI σ2 73 24 → R32 ((gI σ2 73 24) + 1) ∧ (∀ y16 : Int, y16 = (gI σ2 73 24) + 1 → L_X10_property_249 X d n (zpZ P) x1 x3 x8 y10 y16 (sI σ2 73 24 ((gI σ2 73 24) + 1))))))) :
    L_X10_property_218 X d n (zpZ P) x1 x3 x8 σ := by
  intro hx1 hx3 hx8 k0
  unfold Zn
  refine r_aload_n dX10_property_218 rfl ?_
  refine n_callV (N := M_X10_see) (As := []) (st := []) dX10_property_219 mk_X10_see km_RX10_204 kd_X10_see rfl (zlt hn rfl) sh_73 (q := (RX10, TX10, 52)) rfl rfl (zFits_rm d n n n (Nat.le_refl n)) (Nat.le_of_ble_eq_true rfl) rfl k0 h ?_
  rintro _ σ2 k3 ⟨v1, rfl, h4, h5⟩
  change Zm _ _ _ _ _ _ 222 _ [iV v1] _
  refine r_bipush dX10_property_222 rfl ?_
  refine r_icmp_ne (t := 369) dX10_property_224 rfl h4 (r32c rfl) (fun c6 => ?_) (fun c7 => ?_)
  · have h8 := h5.1 c6
    refine r_iconst dX10_property_369 ?_
    exact r_zreturn dX10_property_370 rfl (Or.inr rfl) ⟨k3, _, rfl, (Or.inr rfl), h8⟩
  · have h9 := h5.2 c7
    refine r_aload_n dX10_property_227 rfl ?_
    refine r_getI dX10_property_228 kf_RX10_201 (zlt hn rfl) sh_73 (Or.inl rfl) rfl ?_
    refine r_name (fun y10 e11 => ?_)
    have h12 := h9 y10 e11
    refine r_istore dX10_property_231 rfl rfl ?_
    refine r_aload_n dX10_property_233 rfl ?_
    refine r_dup dX10_property_234 rfl ?_
    refine r_getI dX10_property_235 kf_RX10_201 (zlt hn rfl) sh_73 (Or.inl rfl) rfl ?_
    refine r_iconst dX10_property_238 ?_
    refine r_iadd dX10_property_239 ?_
    obtain ⟨h13, h14⟩ := h12
    refine r_putI dX10_property_240 kf_RX10_201 (zlt hn rfl) sh_73 rfl (Or.inl rfl) ?_
    have k15 := zok_o (i := 24) (x := (gI σ2 73 24) + 1) k3 sh_73 h13
    refine r_aload_n dX10_property_243 rfl ?_
    refine r_getI dX10_property_244 kf_RX10_201 (zlt hn rfl) sh_73 (Or.inl rfl) (gI_same _ _ _ _) ?_
    refine r_name (fun y16 e17 => ?_)
    have h18 := h14 y16 e17
    refine r_istore dX10_property_247 rfl rfl ?_
    exact r_mask [true, true, false, true, false, false, false, false, true, true, true] rfl (h18 hx1 hx3 hx8 (by rw [e11]; exact (k3.2.1 _ _)) (by rw [e17]; exact h13) k15)
theorem b_X10_property_249 {X : ZX} {d n : Nat} {P : Int → ZSto → Prop} {x1 : Int} {x3 : Int} {x8 : Int} {x9 : Int} {x10 : Int} {σ : ZSto} (hn : 104 ≤ n) 
    (h : ZkI X M_X10_see d n [.ref (zB X + 73)] σ (fun v1 σ2 => (v1 = 93 → (x3 ≤ 0 → R32 ((gI σ2 73 24) + 1) ∧ ZkV X M_X10_blanks d n [.ref (zB X + 73)] (sI σ2 73 24 ((gI σ2 73 24) + 1)) (fun σ16 => R32 (x8 + 1) ∧ L_X10_property_218 X d n (zpZ P) x1 x3 (x8 + 1) σ16)) ∧ (¬ (x3 ≤ 0) → (16 ≤ x3 → ZkZ X M_X10_isValue d n [.ref (zB X + 73), iV x1, iV x3, iV x10] σ2 (fun v26 σ27 => (¬ v26 = 0 → R32 ((gI σ27 73 24) + 1) ∧ ZkV X M_X10_blanks d n [.ref (zB X + 73)] (sI σ27 73 24 ((gI σ27 73 24) + 1)) (fun σ38 => R32 (x8 + 1) ∧ L_X10_property_218 X d n (zpZ P) x1 x3 (x8 + 1) σ38)) ∧ (v26 = 0 → ZkZ X M_X10_fault d n [.ref (zB X + 73), iV 3, iV x9] σ27 (fun v45 σ46 => P v45 σ46)))) ∧ (¬ (16 ≤ x3) → R32 (x8 + 1) ∧ (x8 + 1 ≤ 1 → ZkZ X M_X10_isValue d n [.ref (zB X + 73), iV x1, iV x3, iV x10] σ2 (fun v56 σ57 => (¬ v56 = 0 → R32 ((gI σ57 73 24) + 1) ∧ ZkV X M_X10_blanks d n [.ref (zB X + 73)] (sI σ57 73 24 ((gI σ57 73 24) + 1)) (fun σ68 => L_X10_property_218 X d n (zpZ P) x1 x3 (x8 + 1) σ68)) ∧ (v56 = 0 → ZkZ X M_X10_fault d n [.ref (zB X + 73), iV 3, iV x9] σ57 (fun v73 σ74 => P v73 σ74)))) ∧ (¬ (x8 + 1 ≤ 1) → ZkZ X M_X10_fault d n [.ref (zB X + 73), iV 3, iV x9] σ2 (fun v79 σ80 => P v79 σ80))))) ∧ (¬ (v1 = 93) → ZkI X M_X10_see d n [.ref (zB X + 73)] σ2 (fun v85 σ86 => (¬ v85 = 92 → (gI σ86 73 24 < gI σ86 73 20 → R32 ((gI σ86 73 24) + 1) ∧ L_X10_property_249 X d n (zpZ P) x1 x3 x8 x9 x10 (sI σ86 73 24 ((gI σ86 73 24) + 1))) ∧ (¬ (gI σ86 73 24 < gI σ86 73 20) → ZkZ X M_X10_fault d n [.ref (zB X + 73), iV 1, iV (gI σ86 73 20)] σ86 (fun v100 σ101 => P v100 σ101))) ∧ (v85 = 92 → R32 ((gI σ86 73 24) + 1) ∧ ((gI σ86 73 24) + 1 < gI σ86 73 20 → R32 (((gI σ86 73 24) + 1) + 1) ∧ L_X10_property_249 X d n (zpZ P) x1 x3 x8 x9 x10 (sI (sI σ86 73 24 ((gI σ86 73 24) + 1)) 73 24 (((gI σ86 73 24) + 1) + 1))) ∧ (¬ ((gI σ86 73 24) + 1 < gI σ86 73 20) → ZkZ X M_X10_fault d n [.ref (zB X + 73), iV 1, iV (gI σ86 73 20)] (sI σ86 73 24 ((gI σ86 73 24) + 1)) (fun v116 σ117 => P v116 σ117))))))) :
    L_X10_property_249 X d n (zpZ P) x1 x3 x8 x9 x10 σ := by
  intro hx1 hx3 hx8 hx9 hx10 k0
  unfold Zn
  refine r_aload_n dX10_property_249 rfl ?_
  refine n_callV (N := M_X10_see) (As := []) (st := []) dX10_property_250 mk_X10_see km_RX10_204 kd_X10_see rfl (zlt hn rfl) sh_73 (q := (RX10, TX10, 52)) rfl rfl (zFits_rm d n n n (Nat.le_refl n)) (Nat.le_of_ble_eq_true rfl) rfl k0 h ?_
  rintro _ σ2 k3 ⟨v1, rfl, h4, h5⟩
  change Zm _ _ _ _ _ _ 253 _ [iV v1] _
  refine r_bipush dX10_property_253 rfl ?_
  refine r_icmp_eq (t := 311) dX10_property_255 rfl h4 (r32c rfl) (fun c6 => ?_) (fun c7 => ?_)
  · have h8 := h5.1 c6
    refine r_iinc dX10_property_311 rfl rfl rfl ?_
    refine r_iload_n dX10_property_314 rfl ?_
    refine r_if_le (t := 352) dX10_property_315 rfl hx3  (fun c9 => ?_) (fun c10 => ?_)
    · have h11 := h8.1 c9
      refine r_aload_n dX10_property_352 rfl ?_
      refine r_dup dX10_property_353 rfl ?_
      refine r_getI dX10_property_354 kf_RX10_201 (zlt hn rfl) sh_73 (Or.inl rfl) rfl ?_
      refine r_iconst dX10_property_357 ?_
      refine r_iadd dX10_property_358 ?_
      obtain ⟨h12, h13⟩ := h11
      refine r_putI dX10_property_359 kf_RX10_201 (zlt hn rfl) sh_73 rfl (Or.inl rfl) ?_
      have k14 := zok_o (i := 24) (x := (gI σ2 73 24) + 1) k3 sh_73 h12
      refine r_aload_n dX10_property_362 rfl ?_
      refine n_callV (N := M_X10_blanks) (As := []) (st := []) dX10_property_363 mk_X10_blanks km_RX10_226 kd_X10_blanks rfl (zlt hn rfl) sh_73 (q := (RX10, TX10, 52)) rfl rfl (zFits_rm d n n n (Nat.le_refl n)) (Nat.le_of_ble_eq_true rfl) rfl k14 h13 ?_
      rintro _ σ16 k17 ⟨rfl, h19⟩
      change Zm _ _ _ _ _ _ 366 _ [] _
      refine r_goto (t := 218) dX10_property_366 rfl ?_
      obtain ⟨h20, h21⟩ := h19
      exact r_mask [true, true, false, true, false, false, false, false, true, false, false] rfl (h21 hx1 hx3 h20 k17)
    · have h22 := h8.2 c10
      refine r_iload_n dX10_property_318 rfl ?_
      refine r_bipush dX10_property_319 rfl ?_
      refine r_icmp_ge (t := 333) dX10_property_321 rfl hx3 (r32c rfl) (fun c23 => ?_) (fun c24 => ?_)
      · have h25 := h22.1 c23
        refine r_aload_n dX10_property_333 rfl ?_
        refine r_iload_n dX10_property_334 rfl ?_
        refine r_iload_n dX10_property_335 rfl ?_
        refine r_iload dX10_property_336 rfl ?_
        refine n_callV (N := M_X10_isValue) (As := [iV x1, iV x3, iV x10]) (st := []) dX10_property_338 mk_X10_isValue km_RX10_248 kd_X10_isValue rfl (zlt hn rfl) sh_73 (q := (RX10, TX10, 52)) rfl rfl (zFits_rm d n n n (Nat.le_refl n)) (Nat.le_of_ble_eq_true rfl) rfl k3 h25 ?_
        rintro _ σ27 k28 ⟨v26, rfl, h29, h30⟩
        change Zm _ _ _ _ _ _ 341 _ [iV v26] _
        refine r_if_ne (t := 352) dX10_property_341 rfl (r32_z h29)  (fun c31 => ?_) (fun c32 => ?_)
        · have h33 := h30.1 c31
          refine r_aload_n dX10_property_352 rfl ?_
          refine r_dup dX10_property_353 rfl ?_
          refine r_getI dX10_property_354 kf_RX10_201 (zlt hn rfl) sh_73 (Or.inl rfl) rfl ?_
          refine r_iconst dX10_property_357 ?_
          refine r_iadd dX10_property_358 ?_
          obtain ⟨h34, h35⟩ := h33
          refine r_putI dX10_property_359 kf_RX10_201 (zlt hn rfl) sh_73 rfl (Or.inl rfl) ?_
          have k36 := zok_o (i := 24) (x := (gI σ27 73 24) + 1) k28 sh_73 h34
          refine r_aload_n dX10_property_362 rfl ?_
          refine n_callV (N := M_X10_blanks) (As := []) (st := []) dX10_property_363 mk_X10_blanks km_RX10_226 kd_X10_blanks rfl (zlt hn rfl) sh_73 (q := (RX10, TX10, 52)) rfl rfl (zFits_rm d n n n (Nat.le_refl n)) (Nat.le_of_ble_eq_true rfl) rfl k36 h35 ?_
          rintro _ σ38 k39 ⟨rfl, h41⟩
          change Zm _ _ _ _ _ _ 366 _ [] _
          refine r_goto (t := 218) dX10_property_366 rfl ?_
          obtain ⟨h42, h43⟩ := h41
          exact r_mask [true, true, false, true, false, false, false, false, true, false, false] rfl (h43 hx1 hx3 h42 k39)
        · have h44 := h30.2 c32
          refine r_aload_n dX10_property_344 rfl ?_
          refine r_iconst dX10_property_345 ?_
          refine r_iload dX10_property_346 rfl ?_
          refine n_callV (N := M_X10_fault) (As := [iV 3, iV x9]) (st := []) dX10_property_348 mk_X10_fault km_RX10_229 kd_X10_fault rfl (zlt hn rfl) sh_73 (q := (RX10, TX10, 52)) rfl rfl (zFits_rm d n n n (Nat.le_refl n)) (Nat.le_of_ble_eq_true rfl) rfl k28 h44 ?_
          rintro _ σ46 k47 ⟨v45, rfl, h48, h49⟩
          change Zm _ _ _ _ _ _ 351 _ [iV v45] _
          exact r_zreturn dX10_property_351 rfl h48 ⟨k47, _, rfl, h48, h49⟩
      · have h50 := h22.2 c24
        refine r_iload dX10_property_324 rfl ?_
        refine r_iconst dX10_property_326 ?_
        obtain ⟨h51, h52⟩ := h50
        refine r_icmp_le (t := 333) dX10_property_327 rfl h51 (r32c rfl) (fun c53 => ?_) (fun c54 => ?_)
        · have h55 := h52.1 c53
          refine r_aload_n dX10_property_333 rfl ?_
          refine r_iload_n dX10_property_334 rfl ?_
          refine r_iload_n dX10_property_335 rfl ?_
          refine r_iload dX10_property_336 rfl ?_
          refine n_callV (N := M_X10_isValue) (As := [iV x1, iV x3, iV x10]) (st := []) dX10_property_338 mk_X10_isValue km_RX10_248 kd_X10_isValue rfl (zlt hn rfl) sh_73 (q := (RX10, TX10, 52)) rfl rfl (zFits_rm d n n n (Nat.le_refl n)) (Nat.le_of_ble_eq_true rfl) rfl k3 h55 ?_
          rintro _ σ57 k58 ⟨v56, rfl, h59, h60⟩
          change Zm _ _ _ _ _ _ 341 _ [iV v56] _
          refine r_if_ne (t := 352) dX10_property_341 rfl (r32_z h59)  (fun c61 => ?_) (fun c62 => ?_)
          · have h63 := h60.1 c61
            refine r_aload_n dX10_property_352 rfl ?_
            refine r_dup dX10_property_353 rfl ?_
            refine r_getI dX10_property_354 kf_RX10_201 (zlt hn rfl) sh_73 (Or.inl rfl) rfl ?_
            refine r_iconst dX10_property_357 ?_
            refine r_iadd dX10_property_358 ?_
            obtain ⟨h64, h65⟩ := h63
            refine r_putI dX10_property_359 kf_RX10_201 (zlt hn rfl) sh_73 rfl (Or.inl rfl) ?_
            have k66 := zok_o (i := 24) (x := (gI σ57 73 24) + 1) k58 sh_73 h64
            refine r_aload_n dX10_property_362 rfl ?_
            refine n_callV (N := M_X10_blanks) (As := []) (st := []) dX10_property_363 mk_X10_blanks km_RX10_226 kd_X10_blanks rfl (zlt hn rfl) sh_73 (q := (RX10, TX10, 52)) rfl rfl (zFits_rm d n n n (Nat.le_refl n)) (Nat.le_of_ble_eq_true rfl) rfl k66 h65 ?_
            rintro _ σ68 k69 ⟨rfl, h71⟩
            change Zm _ _ _ _ _ _ 366 _ [] _
            refine r_goto (t := 218) dX10_property_366 rfl ?_
            exact r_mask [true, true, false, true, false, false, false, false, true, false, false] rfl (h71 hx1 hx3 h51 k69)
          · have h72 := h60.2 c62
            refine r_aload_n dX10_property_344 rfl ?_
            refine r_iconst dX10_property_345 ?_
            refine r_iload dX10_property_346 rfl ?_
            refine n_callV (N := M_X10_fault) (As := [iV 3, iV x9]) (st := []) dX10_property_348 mk_X10_fault km_RX10_229 kd_X10_fault rfl (zlt hn rfl) sh_73 (q := (RX10, TX10, 52)) rfl rfl (zFits_rm d n n n (Nat.le_refl n)) (Nat.le_of_ble_eq_true rfl) rfl k58 h72 ?_
            rintro _ σ74 k75 ⟨v73, rfl, h76, h77⟩
            change Zm _ _ _ _ _ _ 351 _ [iV v73] _
            exact r_zreturn dX10_property_351 rfl h76 ⟨k75, _, rfl, h76, h77⟩
        · have h78 := h52.2 c54
          refine r_goto (t := 344) dX10_property_330 rfl ?_
          refine r_aload_n dX10_property_344 rfl ?_
          refine r_iconst dX10_property_345 ?_
          refine r_iload dX10_property_346 rfl ?_
          refine n_callV (N := M_X10_fault) (As := [iV 3, iV x9]) (st := []) dX10_property_348 mk_X10_fault km_RX10_229 kd_X10_fault rfl (zlt hn rfl) sh_73 (q := (RX10, TX10, 52)) rfl rfl (zFits_rm d n n n (Nat.le_refl n)) (Nat.le_of_ble_eq_true rfl) rfl k3 h78 ?_
          rintro _ σ80 k81 ⟨v79, rfl, h82, h83⟩
          change Zm _ _ _ _ _ _ 351 _ [iV v79] _
          exact r_zreturn dX10_property_351 rfl h82 ⟨k81, _, rfl, h82, h83⟩
  · have h84 := h5.2 c7
    refine r_aload_n dX10_property_258 rfl ?_
    refine n_callV (N := M_X10_see) (As := []) (st := []) dX10_property_259 mk_X10_see km_RX10_204 kd_X10_see rfl (zlt hn rfl) sh_73 (q := (RX10, TX10, 52)) rfl rfl (zFits_rm d n n n (Nat.le_refl n)) (Nat.le_of_ble_eq_true rfl) rfl k3 h84 ?_
    rintro _ σ86 k87 ⟨v85, rfl, h88, h89⟩
    change Zm _ _ _ _ _ _ 262 _ [iV v85] _
    refine r_bipush dX10_property_262 rfl ?_
    refine r_icmp_ne (t := 277) dX10_property_264 rfl h88 (r32c rfl) (fun c90 => ?_) (fun c91 => ?_)
    · have h92 := h89.1 c90
      refine r_aload_n dX10_property_277 rfl ?_
      refine r_getI dX10_property_278 kf_RX10_201 (zlt hn rfl) sh_73 (Or.inl rfl) rfl ?_
      refine r_aload_n dX10_property_281 rfl ?_
      refine r_getI dX10_property_282 kf_RX10_195 (zlt hn rfl) sh_73 (Or.inl rfl) rfl ?_
      refine r_icmp_lt (t := 298) dX10_property_285 rfl (k87.2.1 _ _) (k87.2.1 _ _) (fun c93 => ?_) (fun c94 => ?_)
      · have h95 := h92.1 c93
        refine r_aload_n dX10_property_298 rfl ?_
        refine r_dup dX10_property_299 rfl ?_
        refine r_getI dX10_property_300 kf_RX10_201 (zlt hn rfl) sh_73 (Or.inl rfl) rfl ?_
        refine r_iconst dX10_property_303 ?_
        refine r_iadd dX10_property_304 ?_
        obtain ⟨h96, h97⟩ := h95
        refine r_putI dX10_property_305 kf_RX10_201 (zlt hn rfl) sh_73 rfl (Or.inl rfl) ?_
        have k98 := zok_o (i := 24) (x := (gI σ86 73 24) + 1) k87 sh_73 h96
        refine r_goto (t := 249) dX10_property_308 rfl ?_
        exact r_mask [true, true, false, true, false, false, false, false, true, true, true] rfl (h97 hx1 hx3 hx8 hx9 hx10 k98)
      · have h99 := h92.2 c94
        refine r_aload_n dX10_property_288 rfl ?_
        refine r_iconst dX10_property_289 ?_
        refine r_aload_n dX10_property_290 rfl ?_
        refine r_getI dX10_property_291 kf_RX10_195 (zlt hn rfl) sh_73 (Or.inl rfl) rfl ?_
        refine n_callV (N := M_X10_fault) (As := [iV 1, iV (gI σ86 73 20)]) (st := []) dX10_property_294 mk_X10_fault km_RX10_229 kd_X10_fault rfl (zlt hn rfl) sh_73 (q := (RX10, TX10, 52)) rfl rfl (zFits_rm d n n n (Nat.le_refl n)) (Nat.le_of_ble_eq_true rfl) rfl k87 h99 ?_
        rintro _ σ101 k102 ⟨v100, rfl, h103, h104⟩
        change Zm _ _ _ _ _ _ 297 _ [iV v100] _
        exact r_zreturn dX10_property_297 rfl h103 ⟨k102, _, rfl, h103, h104⟩
    · have h105 := h89.2 c91
      refine r_aload_n dX10_property_267 rfl ?_
      refine r_dup dX10_property_268 rfl ?_
      refine r_getI dX10_property_269 kf_RX10_201 (zlt hn rfl) sh_73 (Or.inl rfl) rfl ?_
      refine r_iconst dX10_property_272 ?_
      refine r_iadd dX10_property_273 ?_
      obtain ⟨h106, h107⟩ := h105
      refine r_putI dX10_property_274 kf_RX10_201 (zlt hn rfl) sh_73 rfl (Or.inl rfl) ?_
      have k108 := zok_o (i := 24) (x := (gI σ86 73 24) + 1) k87 sh_73 h106
      refine r_aload_n dX10_property_277 rfl ?_
      refine r_getI dX10_property_278 kf_RX10_201 (zlt hn rfl) sh_73 (Or.inl rfl) (gI_same _ _ _ _) ?_
      refine r_aload_n dX10_property_281 rfl ?_
      refine r_getI dX10_property_282 kf_RX10_195 (zlt hn rfl) sh_73 (Or.inl rfl) (gI_f (by decide)) ?_
      refine r_icmp_lt (t := 298) dX10_property_285 rfl h106 (k87.2.1 _ _) (fun c109 => ?_) (fun c110 => ?_)
      · have h111 := h107.1 c109
        refine r_aload_n dX10_property_298 rfl ?_
        refine r_dup dX10_property_299 rfl ?_
        refine r_getI dX10_property_300 kf_RX10_201 (zlt hn rfl) sh_73 (Or.inl rfl) (gI_same _ _ _ _) ?_
        refine r_iconst dX10_property_303 ?_
        refine r_iadd dX10_property_304 ?_
        obtain ⟨h112, h113⟩ := h111
        refine r_putI dX10_property_305 kf_RX10_201 (zlt hn rfl) sh_73 rfl (Or.inl rfl) ?_
        have k114 := zok_o (i := 24) (x := ((gI σ86 73 24) + 1) + 1) k108 sh_73 h112
        refine r_goto (t := 249) dX10_property_308 rfl ?_
        exact r_mask [true, true, false, true, false, false, false, false, true, true, true] rfl (h113 hx1 hx3 hx8 hx9 hx10 k114)
      · have h115 := h107.2 c110
        refine r_aload_n dX10_property_288 rfl ?_
        refine r_iconst dX10_property_289 ?_
        refine r_aload_n dX10_property_290 rfl ?_
        refine r_getI dX10_property_291 kf_RX10_195 (zlt hn rfl) sh_73 (Or.inl rfl) (gI_f (by decide)) ?_
        refine n_callV (N := M_X10_fault) (As := [iV 1, iV (gI σ86 73 20)]) (st := []) dX10_property_294 mk_X10_fault km_RX10_229 kd_X10_fault rfl (zlt hn rfl) sh_73 (q := (RX10, TX10, 52)) rfl rfl (zFits_rm d n n n (Nat.le_refl n)) (Nat.le_of_ble_eq_true rfl) rfl k108 h115 ?_
        rintro _ σ117 k118 ⟨v116, rfl, h119, h120⟩
        change Zm _ _ _ _ _ _ 297 _ [iV v116] _
        exact r_zreturn dX10_property_297 rfl h119 ⟨k118, _, rfl, h119, h120⟩
/-! StoneRoomModel.digits -/
theorem dX10_digits_0 : decode M_X10_digits.2.1 0 = .ok (.aload_n 0, 1) := by decide +kernel
theorem dX10_digits_1 : decode M_X10_digits.2.1 1 = .ok (.getfield 201, 3) := by decide +kernel
theorem dX10_digits_4 : decode M_X10_digits.2.1 4 = .ok (.iload_n 1, 1) := by decide +kernel
theorem dX10_digits_5 : decode M_X10_digits.2.1 5 = .ok (.isub, 1) := by decide +kernel
theorem dX10_digits_6 : decode M_X10_digits.2.1 6 = .ok (.iconst 1, 1) := by decide +kernel
theorem dX10_digits_7 : decode M_X10_digits.2.1 7 = .ok (.if_icmp .lt 13, 3) := by decide +kernel
theorem dX10_digits_10 : decode M_X10_digits.2.1 10 = .ok (.aload_n 0, 1) := by decide +kernel
theorem dX10_digits_11 : decode M_X10_digits.2.1 11 = .ok (.getfield 201, 3) := by decide +kernel
theorem dX10_digits_14 : decode M_X10_digits.2.1 14 = .ok (.iload_n 1, 1) := by decide +kernel
theorem dX10_digits_15 : decode M_X10_digits.2.1 15 = .ok (.isub, 1) := by decide +kernel
theorem dX10_digits_16 : decode M_X10_digits.2.1 16 = .ok (.iconst 3, 1) := by decide +kernel
theorem dX10_digits_17 : decode M_X10_digits.2.1 17 = .ok (.if_icmp .le 5, 3) := by decide +kernel
theorem dX10_digits_20 : decode M_X10_digits.2.1 20 = .ok (.iconst (-1), 1) := by decide +kernel
theorem dX10_digits_21 : decode M_X10_digits.2.1 21 = .ok (.ireturn, 1) := by decide +kernel
theorem dX10_digits_22 : decode M_X10_digits.2.1 22 = .ok (.iconst 0, 1) := by decide +kernel
theorem dX10_digits_23 : decode M_X10_digits.2.1 23 = .ok (.istore_n 2, 1) := by decide +kernel
theorem dX10_digits_24 : decode M_X10_digits.2.1 24 = .ok (.iload_n 1, 1) := by decide +kernel
theorem dX10_digits_25 : decode M_X10_digits.2.1 25 = .ok (.istore_n 3, 1) := by decide +kernel
theorem dX10_digits_26 : decode M_X10_digits.2.1 26 = .ok (.iload_n 3, 1) := by decide +kernel
theorem dX10_digits_27 : decode M_X10_digits.2.1 27 = .ok (.aload_n 0, 1) := by decide +kernel
theorem dX10_digits_28 : decode M_X10_digits.2.1 28 = .ok (.getfield 201, 3) := by decide +kernel
theorem dX10_digits_31 : decode M_X10_digits.2.1 31 = .ok (.if_icmp .ge 48, 3) := by decide +kernel
theorem dX10_digits_34 : decode M_X10_digits.2.1 34 = .ok (.aload_n 0, 1) := by decide +kernel
theorem dX10_digits_35 : decode M_X10_digits.2.1 35 = .ok (.getfield 59, 3) := by decide +kernel
theorem dX10_digits_38 : decode M_X10_digits.2.1 38 = .ok (.iload_n 3, 1) := by decide +kernel
theorem dX10_digits_39 : decode M_X10_digits.2.1 39 = .ok (.baload, 1) := by decide +kernel
theorem dX10_digits_40 : decode M_X10_digits.2.1 40 = .ok (.bipush 48, 2) := by decide +kernel
theorem dX10_digits_42 : decode M_X10_digits.2.1 42 = .ok (.if_icmp .lt 14, 3) := by decide +kernel
theorem dX10_digits_45 : decode M_X10_digits.2.1 45 = .ok (.aload_n 0, 1) := by decide +kernel
theorem dX10_digits_46 : decode M_X10_digits.2.1 46 = .ok (.getfield 59, 3) := by decide +kernel
theorem dX10_digits_49 : decode M_X10_digits.2.1 49 = .ok (.iload_n 3, 1) := by decide +kernel
theorem dX10_digits_50 : decode M_X10_digits.2.1 50 = .ok (.baload, 1) := by decide +kernel
theorem dX10_digits_51 : decode M_X10_digits.2.1 51 = .ok (.bipush 57, 2) := by decide +kernel
theorem dX10_digits_53 : decode M_X10_digits.2.1 53 = .ok (.if_icmp .le 5, 3) := by decide +kernel
theorem dX10_digits_56 : decode M_X10_digits.2.1 56 = .ok (.iconst (-1), 1) := by decide +kernel
theorem dX10_digits_57 : decode M_X10_digits.2.1 57 = .ok (.ireturn, 1) := by decide +kernel
theorem dX10_digits_58 : decode M_X10_digits.2.1 58 = .ok (.bipush 10, 2) := by decide +kernel
theorem dX10_digits_60 : decode M_X10_digits.2.1 60 = .ok (.iload_n 2, 1) := by decide +kernel
theorem dX10_digits_61 : decode M_X10_digits.2.1 61 = .ok (.imul, 1) := by decide +kernel
theorem dX10_digits_62 : decode M_X10_digits.2.1 62 = .ok (.aload_n 0, 1) := by decide +kernel
theorem dX10_digits_63 : decode M_X10_digits.2.1 63 = .ok (.getfield 59, 3) := by decide +kernel
theorem dX10_digits_66 : decode M_X10_digits.2.1 66 = .ok (.iload_n 3, 1) := by decide +kernel
theorem dX10_digits_67 : decode M_X10_digits.2.1 67 = .ok (.baload, 1) := by decide +kernel
theorem dX10_digits_68 : decode M_X10_digits.2.1 68 = .ok (.iadd, 1) := by decide +kernel
theorem dX10_digits_69 : decode M_X10_digits.2.1 69 = .ok (.bipush 48, 2) := by decide +kernel
theorem dX10_digits_71 : decode M_X10_digits.2.1 71 = .ok (.isub, 1) := by decide +kernel
theorem dX10_digits_72 : decode M_X10_digits.2.1 72 = .ok (.istore_n 2, 1) := by decide +kernel
theorem dX10_digits_73 : decode M_X10_digits.2.1 73 = .ok (.iinc 3 1, 3) := by decide +kernel
theorem dX10_digits_76 : decode M_X10_digits.2.1 76 = .ok (.goto (-50), 3) := by decide +kernel
theorem dX10_digits_79 : decode M_X10_digits.2.1 79 = .ok (.iload_n 2, 1) := by decide +kernel
theorem dX10_digits_80 : decode M_X10_digits.2.1 80 = .ok (.ireturn, 1) := by decide +kernel
def L_X10_digits_26 (X : ZX) (d n : Nat) (P : Option Value → ZSto → Prop) (x2 : Int) (x3 : Int) (σ : ZSto) : Prop := R32 x2 → R32 x3 → ZOk n σ → Zn X M_X10_digits d n P 26 [some (.ref (zB X + 73)), none, some (iV x2), some (iV x3)] [] σ
theorem w_X10_digits {X : ZX} {d n : Nat} {P : Int → ZSto → Prop} {x1 : Int} {σ : ZSto} (hn : 104 ≤ n)  (hx1 : R32 x1)
    (h : R32 ((gI σ 73 24) - x1) ∧ ((gI σ 73 24) - x1 < 1 → P ((-1)) σ) ∧ (¬ ((gI σ 73 24) - x1 < 1) → ((gI σ 73 24) - x1 ≤ 3 → L_X10_digits_26 X d n (zpI P) 0 x1 σ) ∧ (¬ ((gI σ 73 24) - x1 ≤ 3) → P ((-1)) σ))) :
    ZkI X M_X10_digits (d + 1) n [.ref (zB X + 73), iV x1] σ P := by
  refine zk_of (ls := [some (.ref (zB X + 73)), some (iV x1), none, none]) pl_RX10 (Nat.le_of_ble_eq_true rfl) rfl (fun k0 => ?_)
  unfold Zn
  refine r_aload_n dX10_digits_0 rfl ?_
  refine r_getI dX10_digits_1 kf_RX10_201 (zlt hn rfl) sh_73 (Or.inl rfl) rfl ?_
  refine r_iload_n dX10_digits_4 rfl ?_
  refine r_isub dX10_digits_5 ?_
  refine r_iconst dX10_digits_6 ?_
  obtain ⟨h1, h2⟩ := h
  refine r_icmp_lt (t := 20) dX10_digits_7 rfl h1 (r32c rfl) (fun c3 => ?_) (fun c4 => ?_)
  · have h5 := h2.1 c3
    refine r_iconst dX10_digits_20 ?_
    exact r_ireturn dX10_digits_21 rfl ⟨k0, _, rfl, (r32c rfl), h5⟩
  · have h6 := h2.2 c4
    refine r_aload_n dX10_digits_10 rfl ?_
    refine r_getI dX10_digits_11 kf_RX10_201 (zlt hn rfl) sh_73 (Or.inl rfl) rfl ?_
    refine r_iload_n dX10_digits_14 rfl ?_
    refine r_isub dX10_digits_15 ?_
    refine r_iconst dX10_digits_16 ?_
    refine r_icmp_le (t := 22) dX10_digits_17 rfl h1 (r32c rfl) (fun c7 => ?_) (fun c8 => ?_)
    · have h9 := h6.1 c7
      refine r_iconst dX10_digits_22 ?_
      refine r_istore_n dX10_digits_23 rfl rfl ?_
      refine r_iload_n dX10_digits_24 rfl ?_
      refine r_istore_n dX10_digits_25 rfl rfl ?_
      exact r_mask [true, false, true, true] rfl (h9 (r32c rfl) hx1 k0)
    · have h10 := h6.2 c8
      refine r_iconst dX10_digits_20 ?_
      exact r_ireturn dX10_digits_21 rfl ⟨k0, _, rfl, (r32c rfl), h10⟩
theorem b_X10_digits_26 {X : ZX} {d n : Nat} {P : Int → ZSto → Prop} {x2 : Int} {x3 : Int} {σ : ZSto} (hn : 104 ≤ n) 
    (h : (gI σ 73 24 ≤ x3 → P x2 σ) ∧ (¬ (gI σ 73 24 ≤ x3) → (0 ≤ x3 ∧ x3 < 1500) ∧ (gI σ 88 x3.toNat < 48 → P ((-1)) σ) ∧ (¬ (gI σ 88 x3.toNat < 48) → (gI σ 88 x3.toNat ≤ 57 → (∀ y14 : Int, y14 = ((10 * x2) + (gI σ 88 x3.toNat)) - 48 → R32 y14 ∧ R32 (x3 + 1) ∧ L_X10_digits_26 X d n (zpI P) y14 (x3 + 1) σ)) ∧ (¬ (gI σ 88 x3.toNat ≤ 57) → P ((-1)) σ)))) :
    L_X10_digits_26 X d n (zpI P) x2 x3 σ := by
  intro hx2 hx3 k0
  unfold Zn
  refine r_iload_n dX10_digits_26 rfl ?_
  refine r_aload_n dX10_digits_27 rfl ?_
  refine r_getI dX10_digits_28 kf_RX10_201 (zlt hn rfl) sh_73 (Or.inl rfl) rfl ?_
  refine r_icmp_ge (t := 79) dX10_digits_31 rfl hx3 (k0.2.1 _ _) (fun c1 => ?_) (fun c2 => ?_)
  · have h3 := h.1 c1
    refine r_iload_n dX10_digits_79 rfl ?_
    exact r_ireturn dX10_digits_80 rfl ⟨k0, _, rfl, hx2, h3⟩
  · have h4 := h.2 c2
    refine r_aload_n dX10_digits_34 rfl ?_
    refine r_getP (a := 88) dX10_digits_35 kf_RX10_59 (zlt hn rfl) sh_73 rfl (k0.1 _ _ _ (zlt hn rfl) p_73_19) ?_
    refine r_iload_n dX10_digits_38 rfl ?_
    obtain ⟨h5, h6⟩ := h4
    refine r_baloadE dX10_digits_39 (zlt hn rfl) sh_88 h5.1 h5.2 rfl ?_
    refine r_bipush dX10_digits_40 rfl ?_
    refine r_icmp_lt (t := 56) dX10_digits_42 rfl (k0.2.1 _ _) (r32c rfl) (fun c7 => ?_) (fun c8 => ?_)
    · have h9 := h6.1 c7
      refine r_iconst dX10_digits_56 ?_
      exact r_ireturn dX10_digits_57 rfl ⟨k0, _, rfl, (r32c rfl), h9⟩
    · have h10 := h6.2 c8
      refine r_aload_n dX10_digits_45 rfl ?_
      refine r_getP (a := 88) dX10_digits_46 kf_RX10_59 (zlt hn rfl) sh_73 rfl (k0.1 _ _ _ (zlt hn rfl) p_73_19) ?_
      refine r_iload_n dX10_digits_49 rfl ?_
      refine r_baloadE dX10_digits_50 (zlt hn rfl) sh_88 h5.1 h5.2 rfl ?_
      refine r_bipush dX10_digits_51 rfl ?_
      refine r_icmp_le (t := 58) dX10_digits_53 rfl (k0.2.1 _ _) (r32c rfl) (fun c11 => ?_) (fun c12 => ?_)
      · have h13 := h10.1 c11
        refine r_bipush dX10_digits_58 rfl ?_
        refine r_iload_n dX10_digits_60 rfl ?_
        refine r_imul dX10_digits_61 ?_
        refine r_aload_n dX10_digits_62 rfl ?_
        refine r_getP (a := 88) dX10_digits_63 kf_RX10_59 (zlt hn rfl) sh_73 rfl (k0.1 _ _ _ (zlt hn rfl) p_73_19) ?_
        refine r_iload_n dX10_digits_66 rfl ?_
        refine r_baloadE dX10_digits_67 (zlt hn rfl) sh_88 h5.1 h5.2 rfl ?_
        refine r_iadd dX10_digits_68 ?_
        refine r_bipush dX10_digits_69 rfl ?_
        refine r_isub dX10_digits_71 ?_
        refine r_name (fun y14 e15 => ?_)
        have h16 := h13 y14 e15
        refine r_istore_n dX10_digits_72 rfl rfl ?_
        refine r_iinc dX10_digits_73 rfl rfl rfl ?_
        refine r_goto (t := 26) dX10_digits_76 rfl ?_
        obtain ⟨h17, h18⟩ := h16
        obtain ⟨h19, h20⟩ := h18
        exact r_mask [true, false, true, true] rfl (h20 h17 h19 k0)
      · have h21 := h10.2 c12
        refine r_iconst dX10_digits_56 ?_
        exact r_ireturn dX10_digits_57 rfl ⟨k0, _, rfl, (r32c rfl), h21⟩
/-! StoneRoomModel.pointFrom -/
theorem dX10_pointFrom_0 : decode M_X10_pointFrom.2.1 0 = .ok (.aload_n 0, 1) := by decide +kernel
theorem dX10_pointFrom_1 : decode M_X10_pointFrom.2.1 1 = .ok (.getfield 201, 3) := by decide +kernel
theorem dX10_pointFrom_4 : decode M_X10_pointFrom.2.1 4 = .ok (.iload_n 1, 1) := by decide +kernel
theorem dX10_pointFrom_5 : decode M_X10_pointFrom.2.1 5 = .ok (.isub, 1) := by decide +kernel
theorem dX10_pointFrom_6 : decode M_X10_pointFrom.2.1 6 = .ok (.iconst 2, 1) := by decide +kernel
theorem dX10_pointFrom_7 : decode M_X10_pointFrom.2.1 7 = .ok (.if_icmp .eq 5, 3) := by decide +kernel
theorem dX10_pointFrom_10 : decode M_X10_pointFrom.2.1 10 = .ok (.iconst (-1), 1) := by decide +kernel
theorem dX10_pointFrom_11 : decode M_X10_pointFrom.2.1 11 = .ok (.ireturn, 1) := by decide +kernel
theorem dX10_pointFrom_12 : decode M_X10_pointFrom.2.1 12 = .ok (.aload_n 0, 1) := by decide +kernel
theorem dX10_pointFrom_13 : decode M_X10_pointFrom.2.1 13 = .ok (.getfield 59, 3) := by decide +kernel
theorem dX10_pointFrom_16 : decode M_X10_pointFrom.2.1 16 = .ok (.iload_n 1, 1) := by decide +kernel
theorem dX10_pointFrom_17 : decode M_X10_pointFrom.2.1 17 = .ok (.baload, 1) := by decide +kernel
theorem dX10_pointFrom_18 : decode M_X10_pointFrom.2.1 18 = .ok (.bipush 97, 2) := by decide +kernel
theorem dX10_pointFrom_20 : decode M_X10_pointFrom.2.1 20 = .ok (.isub, 1) := by decide +kernel
theorem dX10_pointFrom_21 : decode M_X10_pointFrom.2.1 21 = .ok (.istore_n 2, 1) := by decide +kernel
theorem dX10_pointFrom_22 : decode M_X10_pointFrom.2.1 22 = .ok (.aload_n 0, 1) := by decide +kernel
theorem dX10_pointFrom_23 : decode M_X10_pointFrom.2.1 23 = .ok (.getfield 59, 3) := by decide +kernel
theorem dX10_pointFrom_26 : decode M_X10_pointFrom.2.1 26 = .ok (.iload_n 1, 1) := by decide +kernel
theorem dX10_pointFrom_27 : decode M_X10_pointFrom.2.1 27 = .ok (.iconst 1, 1) := by decide +kernel
theorem dX10_pointFrom_28 : decode M_X10_pointFrom.2.1 28 = .ok (.iadd, 1) := by decide +kernel
theorem dX10_pointFrom_29 : decode M_X10_pointFrom.2.1 29 = .ok (.baload, 1) := by decide +kernel
theorem dX10_pointFrom_30 : decode M_X10_pointFrom.2.1 30 = .ok (.bipush 97, 2) := by decide +kernel
theorem dX10_pointFrom_32 : decode M_X10_pointFrom.2.1 32 = .ok (.isub, 1) := by decide +kernel
theorem dX10_pointFrom_33 : decode M_X10_pointFrom.2.1 33 = .ok (.istore_n 3, 1) := by decide +kernel
theorem dX10_pointFrom_34 : decode M_X10_pointFrom.2.1 34 = .ok (.iload_n 2, 1) := by decide +kernel
theorem dX10_pointFrom_35 : decode M_X10_pointFrom.2.1 35 = .ok (.ifCond .lt 23, 3) := by decide +kernel
theorem dX10_pointFrom_38 : decode M_X10_pointFrom.2.1 38 = .ok (.iload_n 2, 1) := by decide +kernel
theorem dX10_pointFrom_39 : decode M_X10_pointFrom.2.1 39 = .ok (.aload_n 0, 1) := by decide +kernel
theorem dX10_pointFrom_40 : decode M_X10_pointFrom.2.1 40 = .ok (.getfield 139, 3) := by decide +kernel
theorem dX10_pointFrom_43 : decode M_X10_pointFrom.2.1 43 = .ok (.if_icmp .ge 15, 3) := by decide +kernel
theorem dX10_pointFrom_46 : decode M_X10_pointFrom.2.1 46 = .ok (.iload_n 3, 1) := by decide +kernel
theorem dX10_pointFrom_47 : decode M_X10_pointFrom.2.1 47 = .ok (.ifCond .lt 11, 3) := by decide +kernel
theorem dX10_pointFrom_50 : decode M_X10_pointFrom.2.1 50 = .ok (.iload_n 3, 1) := by decide +kernel
theorem dX10_pointFrom_51 : decode M_X10_pointFrom.2.1 51 = .ok (.aload_n 0, 1) := by decide +kernel
theorem dX10_pointFrom_52 : decode M_X10_pointFrom.2.1 52 = .ok (.getfield 139, 3) := by decide +kernel
theorem dX10_pointFrom_55 : decode M_X10_pointFrom.2.1 55 = .ok (.if_icmp .lt 7, 3) := by decide +kernel
theorem dX10_pointFrom_58 : decode M_X10_pointFrom.2.1 58 = .ok (.iconst (-1), 1) := by decide +kernel
theorem dX10_pointFrom_59 : decode M_X10_pointFrom.2.1 59 = .ok (.goto 11, 3) := by decide +kernel
theorem dX10_pointFrom_62 : decode M_X10_pointFrom.2.1 62 = .ok (.aload_n 0, 1) := by decide +kernel
theorem dX10_pointFrom_63 : decode M_X10_pointFrom.2.1 63 = .ok (.getfield 139, 3) := by decide +kernel
theorem dX10_pointFrom_66 : decode M_X10_pointFrom.2.1 66 = .ok (.iload_n 3, 1) := by decide +kernel
theorem dX10_pointFrom_67 : decode M_X10_pointFrom.2.1 67 = .ok (.imul, 1) := by decide +kernel
theorem dX10_pointFrom_68 : decode M_X10_pointFrom.2.1 68 = .ok (.iload_n 2, 1) := by decide +kernel
theorem dX10_pointFrom_69 : decode M_X10_pointFrom.2.1 69 = .ok (.iadd, 1) := by decide +kernel
theorem dX10_pointFrom_70 : decode M_X10_pointFrom.2.1 70 = .ok (.ireturn, 1) := by decide +kernel
theorem w_X10_pointFrom {X : ZX} {d n : Nat} {P : Int → ZSto → Prop} {x1 : Int} {σ : ZSto} (hn : 104 ≤ n)  (hx1 : R32 x1)
    (h : R32 ((gI σ 73 24) - x1) ∧ ((gI σ 73 24) - x1 = 2 → (0 ≤ x1 ∧ x1 < 1500) ∧ (∀ y8 : Int, y8 = (gI σ 88 x1.toNat) - 97 → (0 ≤ x1 + 1 ∧ x1 + 1 < 1500) ∧ (∀ y13 : Int, y13 = (gI σ 88 ((x1 + 1).toNat)) - 97 → R32 y8 ∧ (y8 < 0 → P ((-1)) σ) ∧ (¬ (y8 < 0) → (gI σ 73 13 ≤ y8 → P ((-1)) σ) ∧ (¬ (gI σ 73 13 ≤ y8) → R32 y13 ∧ (y13 < 0 → P ((-1)) σ) ∧ (¬ (y13 < 0) → (y13 < gI σ 73 13 → R32 (((gI σ 73 13) * y13) + y8) ∧ P (((gI σ 73 13) * y13) + y8) σ) ∧ (¬ (y13 < gI σ 73 13) → P ((-1)) σ))))))) ∧ (¬ ((gI σ 73 24) - x1 = 2) → P ((-1)) σ)) :
    ZkI X M_X10_pointFrom (d + 1) n [.ref (zB X + 73), iV x1] σ P := by
  refine zk_of (ls := [some (.ref (zB X + 73)), some (iV x1), none, none]) pl_RX10 (Nat.le_of_ble_eq_true rfl) rfl (fun k0 => ?_)
  unfold Zn
  refine r_aload_n dX10_pointFrom_0 rfl ?_
  refine r_getI dX10_pointFrom_1 kf_RX10_201 (zlt hn rfl) sh_73 (Or.inl rfl) rfl ?_
  refine r_iload_n dX10_pointFrom_4 rfl ?_
  refine r_isub dX10_pointFrom_5 ?_
  refine r_iconst dX10_pointFrom_6 ?_
  obtain ⟨h1, h2⟩ := h
  refine r_icmp_eq (t := 12) dX10_pointFrom_7 rfl h1 (r32c rfl) (fun c3 => ?_) (fun c4 => ?_)
  · have h5 := h2.1 c3
    refine r_aload_n dX10_pointFrom_12 rfl ?_
    refine r_getP (a := 88) dX10_pointFrom_13 kf_RX10_59 (zlt hn rfl) sh_73 rfl (k0.1 _ _ _ (zlt hn rfl) p_73_19) ?_
    refine r_iload_n dX10_pointFrom_16 rfl ?_
    obtain ⟨h6, h7⟩ := h5
    refine r_baloadE dX10_pointFrom_17 (zlt hn rfl) sh_88 h6.1 h6.2 rfl ?_
    refine r_bipush dX10_pointFrom_18 rfl ?_
    refine r_isub dX10_pointFrom_20 ?_
    refine r_name (fun y8 e9 => ?_)
    have h10 := h7 y8 e9
    refine r_istore_n dX10_pointFrom_21 rfl rfl ?_
    refine r_aload_n dX10_pointFrom_22 rfl ?_
    refine r_getP (a := 88) dX10_pointFrom_23 kf_RX10_59 (zlt hn rfl) sh_73 rfl (k0.1 _ _ _ (zlt hn rfl) p_73_19) ?_
    refine r_iload_n dX10_pointFrom_26 rfl ?_
    refine r_iconst dX10_pointFrom_27 ?_
    refine r_iadd dX10_pointFrom_28 ?_
    obtain ⟨h11, h12⟩ := h10
    refine r_baloadE dX10_pointFrom_29 (zlt hn rfl) sh_88 h11.1 h11.2 rfl ?_
    refine r_bipush dX10_pointFrom_30 rfl ?_
    refine r_isub dX10_pointFrom_32 ?_
    refine r_name (fun y13 e14 => ?_)
    have h15 := h12 y13 e14
    refine r_istore_n dX10_pointFrom_33 rfl rfl ?_
    refine r_iload_n dX10_pointFrom_34 rfl ?_
    obtain ⟨h16, h17⟩ := h15
    refine r_if_lt (t := 58) dX10_pointFrom_35 rfl h16  (fun c18 => ?_) (fun c19 => ?_)
    · have h20 := h17.1 c18
      refine r_iconst dX10_pointFrom_58 ?_
      refine r_goto (t := 70) dX10_pointFrom_59 rfl ?_
      exact r_ireturn dX10_pointFrom_70 rfl ⟨k0, _, rfl, (r32c rfl), h20⟩
    · have h21 := h17.2 c19
      refine r_iload_n dX10_pointFrom_38 rfl ?_
      refine r_aload_n dX10_pointFrom_39 rfl ?_
      refine r_getI dX10_pointFrom_40 kf_RX10_139 (zlt hn rfl) sh_73 (Or.inl rfl) rfl ?_
      refine r_icmp_ge (t := 58) dX10_pointFrom_43 rfl h16 (k0.2.1 _ _) (fun c22 => ?_) (fun c23 => ?_)
      · have h24 := h21.1 c22
        refine r_iconst dX10_pointFrom_58 ?_
        refine r_goto (t := 70) dX10_pointFrom_59 rfl ?_
        exact r_ireturn dX10_pointFrom_70 rfl ⟨k0, _, rfl, (r32c rfl), h24⟩
      · have h25 := h21.2 c23
        refine r_iload_n dX10_pointFrom_46 rfl ?_
        obtain ⟨h26, h27⟩ := h25
        refine r_if_lt (t := 58) dX10_pointFrom_47 rfl h26  (fun c28 => ?_) (fun c29 => ?_)
        · have h30 := h27.1 c28
          refine r_iconst dX10_pointFrom_58 ?_
          refine r_goto (t := 70) dX10_pointFrom_59 rfl ?_
          exact r_ireturn dX10_pointFrom_70 rfl ⟨k0, _, rfl, (r32c rfl), h30⟩
        · have h31 := h27.2 c29
          refine r_iload_n dX10_pointFrom_50 rfl ?_
          refine r_aload_n dX10_pointFrom_51 rfl ?_
          refine r_getI dX10_pointFrom_52 kf_RX10_139 (zlt hn rfl) sh_73 (Or.inl rfl) rfl ?_
          refine r_icmp_lt (t := 62) dX10_pointFrom_55 rfl h26 (k0.2.1 _ _) (fun c32 => ?_) (fun c33 => ?_)
          · have h34 := h31.1 c32
            refine r_aload_n dX10_pointFrom_62 rfl ?_
            refine r_getI dX10_pointFrom_63 kf_RX10_139 (zlt hn rfl) sh_73 (Or.inl rfl) rfl ?_
            refine r_iload_n dX10_pointFrom_66 rfl ?_
            refine r_imul dX10_pointFrom_67 ?_
            refine r_iload_n dX10_pointFrom_68 rfl ?_
            refine r_iadd dX10_pointFrom_69 ?_
            obtain ⟨h35, h36⟩ := h34
            exact r_ireturn dX10_pointFrom_70 rfl ⟨k0, _, rfl, h35, h36⟩
          · have h37 := h31.2 c33
            refine r_iconst dX10_pointFrom_58 ?_
            refine r_goto (t := 70) dX10_pointFrom_59 rfl ?_
            exact r_ireturn dX10_pointFrom_70 rfl ⟨k0, _, rfl, (r32c rfl), h37⟩
  · have h38 := h2.2 c4
    refine r_iconst dX10_pointFrom_10 ?_
    exact r_ireturn dX10_pointFrom_11 rfl ⟨k0, _, rfl, (r32c rfl), h38⟩
/-! StoneRoomModel.isValue -/
theorem dX10_isValue_0 : decode M_X10_isValue.2.1 0 = .ok (.iload_n 2, 1) := by decide +kernel
theorem dX10_isValue_1 : decode M_X10_isValue.2.1 1 = .ok (.iconst 1, 1) := by decide +kernel
theorem dX10_isValue_2 : decode M_X10_isValue.2.1 2 = .ok (.if_icmp .ne 44, 3) := by decide +kernel
theorem dX10_isValue_5 : decode M_X10_isValue.2.1 5 = .ok (.aload_n 0, 1) := by decide +kernel
theorem dX10_isValue_6 : decode M_X10_isValue.2.1 6 = .ok (.iload_n 3, 1) := by decide +kernel
theorem dX10_isValue_7 : decode M_X10_isValue.2.1 7 = .ok (.invokevirtual 251, 3) := by decide +kernel
theorem dX10_isValue_10 : decode M_X10_isValue.2.1 10 = .ok (.istore 4, 2) := by decide +kernel
theorem dX10_isValue_12 : decode M_X10_isValue.2.1 12 = .ok (.iload 4, 2) := by decide +kernel
theorem dX10_isValue_14 : decode M_X10_isValue.2.1 14 = .ok (.iconst 3, 1) := by decide +kernel
theorem dX10_isValue_15 : decode M_X10_isValue.2.1 15 = .ok (.if_icmp .lt 10, 3) := by decide +kernel
theorem dX10_isValue_18 : decode M_X10_isValue.2.1 18 = .ok (.iload 4, 2) := by decide +kernel
theorem dX10_isValue_20 : decode M_X10_isValue.2.1 20 = .ok (.bipush 9, 2) := by decide +kernel
theorem dX10_isValue_22 : decode M_X10_isValue.2.1 22 = .ok (.if_icmp .le 5, 3) := by decide +kernel
theorem dX10_isValue_25 : decode M_X10_isValue.2.1 25 = .ok (.iconst 0, 1) := by decide +kernel
theorem dX10_isValue_26 : decode M_X10_isValue.2.1 26 = .ok (.ireturn, 1) := by decide +kernel
theorem dX10_isValue_27 : decode M_X10_isValue.2.1 27 = .ok (.aload_n 0, 1) := by decide +kernel
theorem dX10_isValue_28 : decode M_X10_isValue.2.1 28 = .ok (.iload 4, 2) := by decide +kernel
theorem dX10_isValue_30 : decode M_X10_isValue.2.1 30 = .ok (.putfield 139, 3) := by decide +kernel
theorem dX10_isValue_33 : decode M_X10_isValue.2.1 33 = .ok (.aload_n 0, 1) := by decide +kernel
theorem dX10_isValue_34 : decode M_X10_isValue.2.1 34 = .ok (.getfield 36, 3) := by decide +kernel
theorem dX10_isValue_37 : decode M_X10_isValue.2.1 37 = .ok (.aload_n 0, 1) := by decide +kernel
theorem dX10_isValue_38 : decode M_X10_isValue.2.1 38 = .ok (.getfield 219, 3) := by decide +kernel
theorem dX10_isValue_41 : decode M_X10_isValue.2.1 41 = .ok (.iload 4, 2) := by decide +kernel
theorem dX10_isValue_43 : decode M_X10_isValue.2.1 43 = .ok (.iastore, 1) := by decide +kernel
theorem dX10_isValue_44 : decode M_X10_isValue.2.1 44 = .ok (.iconst 1, 1) := by decide +kernel
theorem dX10_isValue_45 : decode M_X10_isValue.2.1 45 = .ok (.ireturn, 1) := by decide +kernel
theorem dX10_isValue_46 : decode M_X10_isValue.2.1 46 = .ok (.iload_n 2, 1) := by decide +kernel
theorem dX10_isValue_47 : decode M_X10_isValue.2.1 47 = .ok (.iconst 2, 1) := by decide +kernel
theorem dX10_isValue_48 : decode M_X10_isValue.2.1 48 = .ok (.if_icmp .ne 88, 3) := by decide +kernel
theorem dX10_isValue_51 : decode M_X10_isValue.2.1 51 = .ok (.aload_n 0, 1) := by decide +kernel
theorem dX10_isValue_52 : decode M_X10_isValue.2.1 52 = .ok (.getfield 201, 3) := by decide +kernel
theorem dX10_isValue_55 : decode M_X10_isValue.2.1 55 = .ok (.iload_n 3, 1) := by decide +kernel
theorem dX10_isValue_56 : decode M_X10_isValue.2.1 56 = .ok (.if_icmp .le 18, 3) := by decide +kernel
theorem dX10_isValue_59 : decode M_X10_isValue.2.1 59 = .ok (.aload_n 0, 1) := by decide +kernel
theorem dX10_isValue_60 : decode M_X10_isValue.2.1 60 = .ok (.getfield 59, 3) := by decide +kernel
theorem dX10_isValue_63 : decode M_X10_isValue.2.1 63 = .ok (.iload_n 3, 1) := by decide +kernel
theorem dX10_isValue_64 : decode M_X10_isValue.2.1 64 = .ok (.baload, 1) := by decide +kernel
theorem dX10_isValue_65 : decode M_X10_isValue.2.1 65 = .ok (.bipush 45, 2) := by decide +kernel
theorem dX10_isValue_67 : decode M_X10_isValue.2.1 67 = .ok (.if_icmp .ne 7, 3) := by decide +kernel
theorem dX10_isValue_70 : decode M_X10_isValue.2.1 70 = .ok (.iconst 1, 1) := by decide +kernel
theorem dX10_isValue_71 : decode M_X10_isValue.2.1 71 = .ok (.goto 4, 3) := by decide +kernel
theorem dX10_isValue_74 : decode M_X10_isValue.2.1 74 = .ok (.iconst 0, 1) := by decide +kernel
theorem dX10_isValue_75 : decode M_X10_isValue.2.1 75 = .ok (.istore 4, 2) := by decide +kernel
theorem dX10_isValue_77 : decode M_X10_isValue.2.1 77 = .ok (.aload_n 0, 1) := by decide +kernel
theorem dX10_isValue_78 : decode M_X10_isValue.2.1 78 = .ok (.iload 4, 2) := by decide +kernel
theorem dX10_isValue_80 : decode M_X10_isValue.2.1 80 = .ok (.ifCond .eq 9, 3) := by decide +kernel
theorem dX10_isValue_83 : decode M_X10_isValue.2.1 83 = .ok (.iload_n 3, 1) := by decide +kernel
theorem dX10_isValue_84 : decode M_X10_isValue.2.1 84 = .ok (.iconst 1, 1) := by decide +kernel
theorem dX10_isValue_85 : decode M_X10_isValue.2.1 85 = .ok (.iadd, 1) := by decide +kernel
theorem dX10_isValue_86 : decode M_X10_isValue.2.1 86 = .ok (.goto 4, 3) := by decide +kernel
theorem dX10_isValue_89 : decode M_X10_isValue.2.1 89 = .ok (.iload_n 3, 1) := by decide +kernel
theorem dX10_isValue_90 : decode M_X10_isValue.2.1 90 = .ok (.invokevirtual 251, 3) := by decide +kernel
theorem dX10_isValue_93 : decode M_X10_isValue.2.1 93 = .ok (.istore 5, 2) := by decide +kernel
theorem dX10_isValue_95 : decode M_X10_isValue.2.1 95 = .ok (.aload_n 0, 1) := by decide +kernel
theorem dX10_isValue_96 : decode M_X10_isValue.2.1 96 = .ok (.getfield 39, 3) := by decide +kernel
theorem dX10_isValue_99 : decode M_X10_isValue.2.1 99 = .ok (.aload_n 0, 1) := by decide +kernel
theorem dX10_isValue_100 : decode M_X10_isValue.2.1 100 = .ok (.getfield 219, 3) := by decide +kernel
theorem dX10_isValue_103 : decode M_X10_isValue.2.1 103 = .ok (.iload 4, 2) := by decide +kernel
theorem dX10_isValue_105 : decode M_X10_isValue.2.1 105 = .ok (.ifCond .eq 9, 3) := by decide +kernel
theorem dX10_isValue_108 : decode M_X10_isValue.2.1 108 = .ok (.iload 5, 2) := by decide +kernel
theorem dX10_isValue_110 : decode M_X10_isValue.2.1 110 = .ok (.ineg, 1) := by decide +kernel
theorem dX10_isValue_111 : decode M_X10_isValue.2.1 111 = .ok (.goto 5, 3) := by decide +kernel
theorem dX10_isValue_114 : decode M_X10_isValue.2.1 114 = .ok (.iload 5, 2) := by decide +kernel
theorem dX10_isValue_116 : decode M_X10_isValue.2.1 116 = .ok (.iastore, 1) := by decide +kernel
theorem dX10_isValue_117 : decode M_X10_isValue.2.1 117 = .ok (.iload 5, 2) := by decide +kernel
theorem dX10_isValue_119 : decode M_X10_isValue.2.1 119 = .ok (.ifCond .lt 15, 3) := by decide +kernel
theorem dX10_isValue_122 : decode M_X10_isValue.2.1 122 = .ok (.iload 5, 2) := by decide +kernel
theorem dX10_isValue_124 : decode M_X10_isValue.2.1 124 = .ok (.sipush 200, 3) := by decide +kernel
theorem dX10_isValue_127 : decode M_X10_isValue.2.1 127 = .ok (.if_icmp .gt 7, 3) := by decide +kernel
theorem dX10_isValue_130 : decode M_X10_isValue.2.1 130 = .ok (.iconst 1, 1) := by decide +kernel
theorem dX10_isValue_131 : decode M_X10_isValue.2.1 131 = .ok (.goto 4, 3) := by decide +kernel
theorem dX10_isValue_134 : decode M_X10_isValue.2.1 134 = .ok (.iconst 0, 1) := by decide +kernel
theorem dX10_isValue_135 : decode M_X10_isValue.2.1 135 = .ok (.ireturn, 1) := by decide +kernel
theorem dX10_isValue_136 : decode M_X10_isValue.2.1 136 = .ok (.aload_n 0, 1) := by decide +kernel
theorem dX10_isValue_137 : decode M_X10_isValue.2.1 137 = .ok (.iload_n 3, 1) := by decide +kernel
theorem dX10_isValue_138 : decode M_X10_isValue.2.1 138 = .ok (.invokevirtual 254, 3) := by decide +kernel
theorem dX10_isValue_141 : decode M_X10_isValue.2.1 141 = .ok (.istore 4, 2) := by decide +kernel
theorem dX10_isValue_143 : decode M_X10_isValue.2.1 143 = .ok (.iload_n 2, 1) := by decide +kernel
theorem dX10_isValue_144 : decode M_X10_isValue.2.1 144 = .ok (.iconst 4, 1) := by decide +kernel
theorem dX10_isValue_145 : decode M_X10_isValue.2.1 145 = .ok (.if_icmp .eq 9, 3) := by decide +kernel
theorem dX10_isValue_148 : decode M_X10_isValue.2.1 148 = .ok (.iload_n 2, 1) := by decide +kernel
theorem dX10_isValue_149 : decode M_X10_isValue.2.1 149 = .ok (.bipush 8, 2) := by decide +kernel
theorem dX10_isValue_151 : decode M_X10_isValue.2.1 151 = .ok (.if_icmp .ne 65, 3) := by decide +kernel
theorem dX10_isValue_154 : decode M_X10_isValue.2.1 154 = .ok (.aload_n 0, 1) := by decide +kernel
theorem dX10_isValue_155 : decode M_X10_isValue.2.1 155 = .ok (.getfield 13, 3) := by decide +kernel
theorem dX10_isValue_158 : decode M_X10_isValue.2.1 158 = .ok (.iload_n 1, 1) := by decide +kernel
theorem dX10_isValue_159 : decode M_X10_isValue.2.1 159 = .ok (.aload_n 0, 1) := by decide +kernel
theorem dX10_isValue_160 : decode M_X10_isValue.2.1 160 = .ok (.getfield 201, 3) := by decide +kernel
theorem dX10_isValue_163 : decode M_X10_isValue.2.1 163 = .ok (.iload_n 3, 1) := by decide +kernel
theorem dX10_isValue_164 : decode M_X10_isValue.2.1 164 = .ok (.if_icmp .ne 7, 3) := by decide +kernel
theorem dX10_isValue_167 : decode M_X10_isValue.2.1 167 = .ok (.iconst 2, 1) := by decide +kernel
theorem dX10_isValue_168 : decode M_X10_isValue.2.1 168 = .ok (.goto 4, 3) := by decide +kernel
theorem dX10_isValue_171 : decode M_X10_isValue.2.1 171 = .ok (.iconst 1, 1) := by decide +kernel
theorem dX10_isValue_172 : decode M_X10_isValue.2.1 172 = .ok (.iastore, 1) := by decide +kernel
theorem dX10_isValue_173 : decode M_X10_isValue.2.1 173 = .ok (.aload_n 0, 1) := by decide +kernel
theorem dX10_isValue_174 : decode M_X10_isValue.2.1 174 = .ok (.getfield 16, 3) := by decide +kernel
theorem dX10_isValue_177 : decode M_X10_isValue.2.1 177 = .ok (.iload_n 1, 1) := by decide +kernel
theorem dX10_isValue_178 : decode M_X10_isValue.2.1 178 = .ok (.iload_n 2, 1) := by decide +kernel
theorem dX10_isValue_179 : decode M_X10_isValue.2.1 179 = .ok (.iconst 4, 1) := by decide +kernel
theorem dX10_isValue_180 : decode M_X10_isValue.2.1 180 = .ok (.if_icmp .ne 7, 3) := by decide +kernel
theorem dX10_isValue_183 : decode M_X10_isValue.2.1 183 = .ok (.iconst 1, 1) := by decide +kernel
theorem dX10_isValue_184 : decode M_X10_isValue.2.1 184 = .ok (.goto 4, 3) := by decide +kernel
theorem dX10_isValue_187 : decode M_X10_isValue.2.1 187 = .ok (.iconst 2, 1) := by decide +kernel
theorem dX10_isValue_188 : decode M_X10_isValue.2.1 188 = .ok (.iastore, 1) := by decide +kernel
theorem dX10_isValue_189 : decode M_X10_isValue.2.1 189 = .ok (.aload_n 0, 1) := by decide +kernel
theorem dX10_isValue_190 : decode M_X10_isValue.2.1 190 = .ok (.getfield 19, 3) := by decide +kernel
theorem dX10_isValue_193 : decode M_X10_isValue.2.1 193 = .ok (.iload_n 1, 1) := by decide +kernel
theorem dX10_isValue_194 : decode M_X10_isValue.2.1 194 = .ok (.iload 4, 2) := by decide +kernel
theorem dX10_isValue_196 : decode M_X10_isValue.2.1 196 = .ok (.iastore, 1) := by decide +kernel
theorem dX10_isValue_197 : decode M_X10_isValue.2.1 197 = .ok (.iload 4, 2) := by decide +kernel
theorem dX10_isValue_199 : decode M_X10_isValue.2.1 199 = .ok (.ifCond .ge 11, 3) := by decide +kernel
theorem dX10_isValue_202 : decode M_X10_isValue.2.1 202 = .ok (.aload_n 0, 1) := by decide +kernel
theorem dX10_isValue_203 : decode M_X10_isValue.2.1 203 = .ok (.getfield 201, 3) := by decide +kernel
theorem dX10_isValue_206 : decode M_X10_isValue.2.1 206 = .ok (.iload_n 3, 1) := by decide +kernel
theorem dX10_isValue_207 : decode M_X10_isValue.2.1 207 = .ok (.if_icmp .ne 7, 3) := by decide +kernel
theorem dX10_isValue_210 : decode M_X10_isValue.2.1 210 = .ok (.iconst 1, 1) := by decide +kernel
theorem dX10_isValue_211 : decode M_X10_isValue.2.1 211 = .ok (.goto 4, 3) := by decide +kernel
theorem dX10_isValue_214 : decode M_X10_isValue.2.1 214 = .ok (.iconst 0, 1) := by decide +kernel
theorem dX10_isValue_215 : decode M_X10_isValue.2.1 215 = .ok (.ireturn, 1) := by decide +kernel
theorem dX10_isValue_216 : decode M_X10_isValue.2.1 216 = .ok (.iload 4, 2) := by decide +kernel
theorem dX10_isValue_218 : decode M_X10_isValue.2.1 218 = .ok (.ifCond .lt 19, 3) := by decide +kernel
theorem dX10_isValue_221 : decode M_X10_isValue.2.1 221 = .ok (.aload_n 0, 1) := by decide +kernel
theorem dX10_isValue_222 : decode M_X10_isValue.2.1 222 = .ok (.getfield 30, 3) := by decide +kernel
theorem dX10_isValue_225 : decode M_X10_isValue.2.1 225 = .ok (.bipush 81, 2) := by decide +kernel
theorem dX10_isValue_227 : decode M_X10_isValue.2.1 227 = .ok (.iload_n 1, 1) := by decide +kernel
theorem dX10_isValue_228 : decode M_X10_isValue.2.1 228 = .ok (.imul, 1) := by decide +kernel
theorem dX10_isValue_229 : decode M_X10_isValue.2.1 229 = .ok (.iload 4, 2) := by decide +kernel
theorem dX10_isValue_231 : decode M_X10_isValue.2.1 231 = .ok (.iadd, 1) := by decide +kernel
theorem dX10_isValue_232 : decode M_X10_isValue.2.1 232 = .ok (.baload, 1) := by decide +kernel
theorem dX10_isValue_233 : decode M_X10_isValue.2.1 233 = .ok (.iconst 3, 1) := by decide +kernel
theorem dX10_isValue_234 : decode M_X10_isValue.2.1 234 = .ok (.if_icmp .ge 5, 3) := by decide +kernel
theorem dX10_isValue_237 : decode M_X10_isValue.2.1 237 = .ok (.iconst 0, 1) := by decide +kernel
theorem dX10_isValue_238 : decode M_X10_isValue.2.1 238 = .ok (.ireturn, 1) := by decide +kernel
theorem dX10_isValue_239 : decode M_X10_isValue.2.1 239 = .ok (.aload_n 0, 1) := by decide +kernel
theorem dX10_isValue_240 : decode M_X10_isValue.2.1 240 = .ok (.getfield 30, 3) := by decide +kernel
theorem dX10_isValue_243 : decode M_X10_isValue.2.1 243 = .ok (.bipush 81, 2) := by decide +kernel
theorem dX10_isValue_245 : decode M_X10_isValue.2.1 245 = .ok (.iload_n 1, 1) := by decide +kernel
theorem dX10_isValue_246 : decode M_X10_isValue.2.1 246 = .ok (.imul, 1) := by decide +kernel
theorem dX10_isValue_247 : decode M_X10_isValue.2.1 247 = .ok (.iload 4, 2) := by decide +kernel
theorem dX10_isValue_249 : decode M_X10_isValue.2.1 249 = .ok (.iadd, 1) := by decide +kernel
theorem dX10_isValue_250 : decode M_X10_isValue.2.1 250 = .ok (.iload_n 2, 1) := by decide +kernel
theorem dX10_isValue_251 : decode M_X10_isValue.2.1 251 = .ok (.bipush 16, 2) := by decide +kernel
theorem dX10_isValue_253 : decode M_X10_isValue.2.1 253 = .ok (.if_icmp .ne 7, 3) := by decide +kernel
theorem dX10_isValue_256 : decode M_X10_isValue.2.1 256 = .ok (.iconst 1, 1) := by decide +kernel
theorem dX10_isValue_257 : decode M_X10_isValue.2.1 257 = .ok (.goto 14, 3) := by decide +kernel
theorem dX10_isValue_260 : decode M_X10_isValue.2.1 260 = .ok (.iload_n 2, 1) := by decide +kernel
theorem dX10_isValue_261 : decode M_X10_isValue.2.1 261 = .ok (.bipush 32, 2) := by decide +kernel
theorem dX10_isValue_263 : decode M_X10_isValue.2.1 263 = .ok (.if_icmp .ne 7, 3) := by decide +kernel
theorem dX10_isValue_266 : decode M_X10_isValue.2.1 266 = .ok (.iconst 2, 1) := by decide +kernel
theorem dX10_isValue_267 : decode M_X10_isValue.2.1 267 = .ok (.goto 4, 3) := by decide +kernel
theorem dX10_isValue_270 : decode M_X10_isValue.2.1 270 = .ok (.iconst 0, 1) := by decide +kernel
theorem dX10_isValue_271 : decode M_X10_isValue.2.1 271 = .ok (.i2b, 1) := by decide +kernel
theorem dX10_isValue_272 : decode M_X10_isValue.2.1 272 = .ok (.bastore, 1) := by decide +kernel
theorem dX10_isValue_273 : decode M_X10_isValue.2.1 273 = .ok (.iconst 1, 1) := by decide +kernel
theorem dX10_isValue_274 : decode M_X10_isValue.2.1 274 = .ok (.ireturn, 1) := by decide +kernel
def L_X10_isValue_74 (X : ZX) (d n : Nat) (P : Option Value → ZSto → Prop) (x3 : Int) (σ : ZSto) : Prop := R32 x3 → ZOk n σ → Zn X M_X10_isValue d n P 74 [some (.ref (zB X + 73)), none, none, some (iV x3), none, none] [] σ
def L_X10_isValue_75 (X : ZX) (d n : Nat) (P : Option Value → ZSto → Prop) (x3 : Int) (x20 : Int) (σ : ZSto) : Prop := R32 x3 → R32 x20 → ZOk n σ → Zn X M_X10_isValue d n P 75 [some (.ref (zB X + 73)), none, none, some (iV x3), none, none] [iV x20] σ
def L_X10_isValue_154 (X : ZX) (d n : Nat) (P : Option Value → ZSto → Prop) (x1 : Int) (x2 : Int) (x3 : Int) (x4 : Int) (σ : ZSto) : Prop := R32 x1 → R32 x2 → R32 x3 → R32 x4 → ZOk n σ → Zn X M_X10_isValue d n P 154 [some (.ref (zB X + 73)), some (iV x1), some (iV x2), some (iV x3), some (iV x4), none] [] σ
theorem w_X10_isValue {X : ZX} {d n : Nat} {P : Int → ZSto → Prop} {x1 : Int} {x2 : Int} {x3 : Int} {σ : ZSto} (hn : 104 ≤ n)  (hx1 : R32 x1) (hx2 : R32 x2) (hx3 : R32 x3)
    (h : (¬ x2 = 1 → (¬ x2 = 2 → ZkI X M_X10_pointFrom d n [.ref (zB X + 73), iV x3] σ (fun v7 σ8 => (x2 = 4 → L_X10_isValue_154 X d n (zpZ P) x1 x2 x3 v7 σ8) ∧ (¬ (x2 = 4) → (¬ x2 = 8 → (v7 < 0 → P 0 σ8) ∧ (¬ (v7 < 0) → (0 ≤ (81 * x1) + v7 ∧ (81 * x1) + v7 < 40500) ∧ (3 ≤ gI σ8 80 (((81 * x1) + v7).toNat) → (¬ x2 = 16 → (¬ x2 = 32 → P 1 (sI σ8 80 (((81 * x1) + v7).toNat) (w8 0))) ∧ (x2 = 32 → P 1 (sI σ8 80 (((81 * x1) + v7).toNat) (w8 2)))) ∧ (x2 = 16 → P 1 (sI σ8 80 (((81 * x1) + v7).toNat) (w8 1)))) ∧ (¬ (3 ≤ gI σ8 80 (((81 * x1) + v7).toNat)) → P 0 σ8))) ∧ (x2 = 8 → L_X10_isValue_154 X d n (zpZ P) x1 x2 x3 v7 σ8)))) ∧ (x2 = 2 → (gI σ 73 24 ≤ x3 → L_X10_isValue_74 X d n (zpZ P) x3 σ) ∧ (¬ (gI σ 73 24 ≤ x3) → (0 ≤ x3 ∧ x3 < 1500) ∧ (¬ gI σ 88 x3.toNat = 45 → L_X10_isValue_74 X d n (zpZ P) x3 σ) ∧ (gI σ 88 x3.toNat = 45 → L_X10_isValue_75 X d n (zpZ P) x3 1 σ)))) ∧ (x2 = 1 → ZkI X M_X10_digits d n [.ref (zB X + 73), iV x3] σ (fun v53 σ54 => (v53 < 3 → P 0 σ54) ∧ (¬ (v53 < 3) → (v53 ≤ 9 → (0 ≤ gI σ54 73 28 ∧ gI σ54 73 28 < 2) ∧ P 1 (sI (sI σ54 73 13 v53) 82 ((gI σ54 73 28).toNat) v53)) ∧ (¬ (v53 ≤ 9) → P 0 σ54))))) :
    ZkZ X M_X10_isValue (d + 1) n [.ref (zB X + 73), iV x1, iV x2, iV x3] σ P := by
  refine zk_of (ls := [some (.ref (zB X + 73)), some (iV x1), some (iV x2), some (iV x3), none, none]) pl_RX10 (Nat.le_of_ble_eq_true rfl) rfl (fun k0 => ?_)
  unfold Zn
  refine r_iload_n dX10_isValue_0 rfl ?_
  refine r_iconst dX10_isValue_1 ?_
  refine r_icmp_ne (t := 46) dX10_isValue_2 rfl hx2 (r32c rfl) (fun c1 => ?_) (fun c2 => ?_)
  · have h3 := h.1 c1
    refine r_iload_n dX10_isValue_46 rfl ?_
    refine r_iconst dX10_isValue_47 ?_
    refine r_icmp_ne (t := 136) dX10_isValue_48 rfl hx2 (r32c rfl) (fun c4 => ?_) (fun c5 => ?_)
    · have h6 := h3.1 c4
      refine r_aload_n dX10_isValue_136 rfl ?_
      refine r_iload_n dX10_isValue_137 rfl ?_
      refine n_callV (N := M_X10_pointFrom) (As := [iV x3]) (st := []) dX10_isValue_138 mk_X10_pointFrom km_RX10_254 kd_X10_pointFrom rfl (zlt hn rfl) sh_73 (q := (RX10, TX10, 52)) rfl rfl (zFits_rm d n n n (Nat.le_refl n)) (Nat.le_of_ble_eq_true rfl) rfl k0 h6 ?_
      rintro _ σ8 k9 ⟨v7, rfl, h10, h11⟩
      change Zm _ _ _ _ _ _ 141 _ [iV v7] _
      refine r_istore dX10_isValue_141 rfl rfl ?_
      refine r_iload_n dX10_isValue_143 rfl ?_
      refine r_iconst dX10_isValue_144 ?_
      refine r_icmp_eq (t := 154) dX10_isValue_145 rfl hx2 (r32c rfl) (fun c12 => ?_) (fun c13 => ?_)
      · have h14 := h11.1 c12
        exact r_mask [true, true, true, true, true, false] rfl (h14 hx1 hx2 hx3 h10 k9)
      · have h15 := h11.2 c13
        refine r_iload_n dX10_isValue_148 rfl ?_
        refine r_bipush dX10_isValue_149 rfl ?_
        refine r_icmp_ne (t := 216) dX10_isValue_151 rfl hx2 (r32c rfl) (fun c16 => ?_) (fun c17 => ?_)
        · have h18 := h15.1 c16
          refine r_iload dX10_isValue_216 rfl ?_
          refine r_if_lt (t := 237) dX10_isValue_218 rfl h10  (fun c19 => ?_) (fun c20 => ?_)
          · have h21 := h18.1 c19
            refine r_iconst dX10_isValue_237 ?_
            exact r_zreturn dX10_isValue_238 rfl (Or.inl rfl) ⟨k9, _, rfl, (Or.inl rfl), h21⟩
          · have h22 := h18.2 c20
            refine r_aload_n dX10_isValue_221 rfl ?_
            refine r_getP (a := 80) dX10_isValue_222 kf_RX10_30 (zlt hn rfl) sh_73 rfl (k9.1 _ _ _ (zlt hn rfl) p_73_6) ?_
            refine r_bipush dX10_isValue_225 rfl ?_
            refine r_iload_n dX10_isValue_227 rfl ?_
            refine r_imul dX10_isValue_228 ?_
            refine r_iload dX10_isValue_229 rfl ?_
            refine r_iadd dX10_isValue_231 ?_
            obtain ⟨h23, h24⟩ := h22
            refine r_baloadE dX10_isValue_232 (zlt hn rfl) sh_80 h23.1 h23.2 rfl ?_
            refine r_iconst dX10_isValue_233 ?_
            refine r_icmp_ge (t := 239) dX10_isValue_234 rfl (k9.2.1 _ _) (r32c rfl) (fun c25 => ?_) (fun c26 => ?_)
            · have h27 := h24.1 c25
              refine r_aload_n dX10_isValue_239 rfl ?_
              refine r_getP (a := 80) dX10_isValue_240 kf_RX10_30 (zlt hn rfl) sh_73 rfl (k9.1 _ _ _ (zlt hn rfl) p_73_6) ?_
              refine r_bipush dX10_isValue_243 rfl ?_
              refine r_iload_n dX10_isValue_245 rfl ?_
              refine r_imul dX10_isValue_246 ?_
              refine r_iload dX10_isValue_247 rfl ?_
              refine r_iadd dX10_isValue_249 ?_
              refine r_iload_n dX10_isValue_250 rfl ?_
              refine r_bipush dX10_isValue_251 rfl ?_
              refine r_icmp_ne (t := 260) dX10_isValue_253 rfl hx2 (r32c rfl) (fun c28 => ?_) (fun c29 => ?_)
              · have h30 := h27.1 c28
                refine r_iload_n dX10_isValue_260 rfl ?_
                refine r_bipush dX10_isValue_261 rfl ?_
                refine r_icmp_ne (t := 270) dX10_isValue_263 rfl hx2 (r32c rfl) (fun c31 => ?_) (fun c32 => ?_)
                · have h33 := h30.1 c31
                  refine r_iconst dX10_isValue_270 ?_
                  refine r_i2b dX10_isValue_271 ?_
                  refine r_bastore dX10_isValue_272 (zlt hn rfl) sh_80 h23.1 h23.2 (w8_lo _) (w8_hi _) ?_
                  have k34 := zok_b (i := ((81 * x1) + v7).toNat) (x := w8 0) k9 sh_80 (w8_lo _) (w8_hi _)
                  refine r_iconst dX10_isValue_273 ?_
                  exact r_zreturn dX10_isValue_274 rfl (Or.inr rfl) ⟨k34, _, rfl, (Or.inr rfl), h33⟩
                · have h35 := h30.2 c32
                  refine r_iconst dX10_isValue_266 ?_
                  refine r_goto (t := 271) dX10_isValue_267 rfl ?_
                  refine r_i2b dX10_isValue_271 ?_
                  refine r_bastore dX10_isValue_272 (zlt hn rfl) sh_80 h23.1 h23.2 (w8_lo _) (w8_hi _) ?_
                  have k36 := zok_b (i := ((81 * x1) + v7).toNat) (x := w8 2) k9 sh_80 (w8_lo _) (w8_hi _)
                  refine r_iconst dX10_isValue_273 ?_
                  exact r_zreturn dX10_isValue_274 rfl (Or.inr rfl) ⟨k36, _, rfl, (Or.inr rfl), h35⟩
              · have h37 := h27.2 c29
                refine r_iconst dX10_isValue_256 ?_
                refine r_goto (t := 271) dX10_isValue_257 rfl ?_
                refine r_i2b dX10_isValue_271 ?_
                refine r_bastore dX10_isValue_272 (zlt hn rfl) sh_80 h23.1 h23.2 (w8_lo _) (w8_hi _) ?_
                have k38 := zok_b (i := ((81 * x1) + v7).toNat) (x := w8 1) k9 sh_80 (w8_lo _) (w8_hi _)
                refine r_iconst dX10_isValue_273 ?_
                exact r_zreturn dX10_isValue_274 rfl (Or.inr rfl) ⟨k38, _, rfl, (Or.inr rfl), h37⟩
            · have h39 := h24.2 c26
              refine r_iconst dX10_isValue_237 ?_
              exact r_zreturn dX10_isValue_238 rfl (Or.inl rfl) ⟨k9, _, rfl, (Or.inl rfl), h39⟩
        · have h40 := h15.2 c17
          exact r_mask [true, true, true, true, true, false] rfl (h40 hx1 hx2 hx3 h10 k9)
    · have h41 := h3.2 c5
      refine r_aload_n dX10_isValue_51 rfl ?_
      refine r_getI dX10_isValue_52 kf_RX10_201 (zlt hn rfl) sh_73 (Or.inl rfl) rfl ?_
      refine r_iload_n dX10_isValue_55 rfl ?_
      refine r_icmp_le (t := 74) dX10_isValue_56 rfl (k0.2.1 _ _) hx3 (fun c42 => ?_) (fun c43 => ?_)
      · have h44 := h41.1 c42
        exact r_mask [true, false, false, true, false, false] rfl (h44 hx3 k0)
      · have h45 := h41.2 c43
        refine r_aload_n dX10_isValue_59 rfl ?_
        refine r_getP (a := 88) dX10_isValue_60 kf_RX10_59 (zlt hn rfl) sh_73 rfl (k0.1 _ _ _ (zlt hn rfl) p_73_19) ?_
        refine r_iload_n dX10_isValue_63 rfl ?_
        obtain ⟨h46, h47⟩ := h45
        refine r_baloadE dX10_isValue_64 (zlt hn rfl) sh_88 h46.1 h46.2 rfl ?_
        refine r_bipush dX10_isValue_65 rfl ?_
        refine r_icmp_ne (t := 74) dX10_isValue_67 rfl (k0.2.1 _ _) (r32c rfl) (fun c48 => ?_) (fun c49 => ?_)
        · have h50 := h47.1 c48
          exact r_mask [true, false, false, true, false, false] rfl (h50 hx3 k0)
        · have h51 := h47.2 c49
          refine r_iconst dX10_isValue_70 ?_
          refine r_goto (t := 75) dX10_isValue_71 rfl ?_
          exact r_mask [true, false, false, true, false, false] rfl (h51 hx3 (r32c rfl) k0)
  · have h52 := h.2 c2
    refine r_aload_n dX10_isValue_5 rfl ?_
    refine r_iload_n dX10_isValue_6 rfl ?_
    refine n_callV (N := M_X10_digits) (As := [iV x3]) (st := []) dX10_isValue_7 mk_X10_digits km_RX10_251 kd_X10_digits rfl (zlt hn rfl) sh_73 (q := (RX10, TX10, 52)) rfl rfl (zFits_rm d n n n (Nat.le_refl n)) (Nat.le_of_ble_eq_true rfl) rfl k0 h52 ?_
    rintro _ σ54 k55 ⟨v53, rfl, h56, h57⟩
    change Zm _ _ _ _ _ _ 10 _ [iV v53] _
    refine r_istore dX10_isValue_10 rfl rfl ?_
    refine r_iload dX10_isValue_12 rfl ?_
    refine r_iconst dX10_isValue_14 ?_
    refine r_icmp_lt (t := 25) dX10_isValue_15 rfl h56 (r32c rfl) (fun c58 => ?_) (fun c59 => ?_)
    · have h60 := h57.1 c58
      refine r_iconst dX10_isValue_25 ?_
      exact r_zreturn dX10_isValue_26 rfl (Or.inl rfl) ⟨k55, _, rfl, (Or.inl rfl), h60⟩
    · have h61 := h57.2 c59
      refine r_iload dX10_isValue_18 rfl ?_
      refine r_bipush dX10_isValue_20 rfl ?_
      refine r_icmp_le (t := 27) dX10_isValue_22 rfl h56 (r32c rfl) (fun c62 => ?_) (fun c63 => ?_)
      · have h64 := h61.1 c62
        refine r_aload_n dX10_isValue_27 rfl ?_
        refine r_iload dX10_isValue_28 rfl ?_
        refine r_putI dX10_isValue_30 kf_RX10_139 (zlt hn rfl) sh_73 rfl (Or.inl rfl) ?_
        have k65 := zok_o (i := 13) (x := v53) k55 sh_73 h56
        refine r_aload_n dX10_isValue_33 rfl ?_
        refine r_getP (a := 82) dX10_isValue_34 kf_RX10_36 (zlt hn rfl) sh_73 rfl (k65.1 _ _ _ (zlt hn rfl) p_73_8) ?_
        refine r_aload_n dX10_isValue_37 rfl ?_
        refine r_getI dX10_isValue_38 kf_RX10_219 (zlt hn rfl) sh_73 (Or.inl rfl) (gI_f (by decide)) ?_
        refine r_iload dX10_isValue_41 rfl ?_
        obtain ⟨h66, h67⟩ := h64
        refine r_iastore dX10_isValue_43 (zlt hn rfl) sh_82 h66.1 h66.2 ?_
        have k68 := zok_i (i := (gI σ54 73 28).toNat) (x := v53) k65 sh_82 h56
        refine r_iconst dX10_isValue_44 ?_
        exact r_zreturn dX10_isValue_45 rfl (Or.inr rfl) ⟨k68, _, rfl, (Or.inr rfl), h67⟩
      · have h69 := h61.2 c63
        refine r_iconst dX10_isValue_25 ?_
        exact r_zreturn dX10_isValue_26 rfl (Or.inl rfl) ⟨k55, _, rfl, (Or.inl rfl), h69⟩
theorem b_X10_isValue_74 {X : ZX} {d n : Nat} {P : Int → ZSto → Prop} {x3 : Int} {σ : ZSto} (hn : 104 ≤ n) 
    (h : L_X10_isValue_75 X d n (zpZ P) x3 0 σ) :
    L_X10_isValue_74 X d n (zpZ P) x3 σ := by
  intro hx3 k0
  unfold Zn
  refine r_iconst dX10_isValue_74 ?_
  exact r_mask [true, false, false, true, false, false] rfl (h hx3 (r32c rfl) k0)
theorem b_X10_isValue_75 {X : ZX} {d n : Nat} {P : Int → ZSto → Prop} {x3 : Int} {x20 : Int} {σ : ZSto} (hn : 104 ≤ n) 
    (h : (x20 = 0 → ZkI X M_X10_digits d n [.ref (zB X + 73), iV x3] σ (fun v4 σ5 => (x20 = 0 → (0 ≤ gI σ5 73 28 ∧ gI σ5 73 28 < 2) ∧ (v4 < 0 → P 0 (sI σ5 83 ((gI σ5 73 28).toNat) v4)) ∧ (¬ (v4 < 0) → (200 < v4 → P 0 (sI σ5 83 ((gI σ5 73 28).toNat) v4)) ∧ (¬ (200 < v4) → P 1 (sI σ5 83 ((gI σ5 73 28).toNat) v4)))) ∧ (¬ (x20 = 0) → (0 ≤ gI σ5 73 28 ∧ gI σ5 73 28 < 2) ∧ R32 (-v4) ∧ (v4 < 0 → P 0 (sI σ5 83 ((gI σ5 73 28).toNat) (-v4))) ∧ (¬ (v4 < 0) → (200 < v4 → P 0 (sI σ5 83 ((gI σ5 73 28).toNat) (-v4))) ∧ (¬ (200 < v4) → P 1 (sI σ5 83 ((gI σ5 73 28).toNat) (-v4))))))) ∧ (¬ (x20 = 0) → ZkI X M_X10_digits d n [.ref (zB X + 73), iV (x3 + 1)] σ (fun v38 σ39 => (x20 = 0 → (0 ≤ gI σ39 73 28 ∧ gI σ39 73 28 < 2) ∧ (v38 < 0 → P 0 (sI σ39 83 ((gI σ39 73 28).toNat) v38)) ∧ (¬ (v38 < 0) → (200 < v38 → P 0 (sI σ39 83 ((gI σ39 73 28).toNat) v38)) ∧ (¬ (200 < v38) → P 1 (sI σ39 83 ((gI σ39 73 28).toNat) v38)))) ∧ (¬ (x20 = 0) → (0 ≤ gI σ39 73 28 ∧ gI σ39 73 28 < 2) ∧ R32 (-v38) ∧ (v38 < 0 → P 0 (sI σ39 83 ((gI σ39 73 28).toNat) (-v38))) ∧ (¬ (v38 < 0) → (200 < v38 → P 0 (sI σ39 83 ((gI σ39 73 28).toNat) (-v38))) ∧ (¬ (200 < v38) → P 1 (sI σ39 83 ((gI σ39 73 28).toNat) (-v38)))))))) :
    L_X10_isValue_75 X d n (zpZ P) x3 x20 σ := by
  intro hx3 hx20 k0
  unfold Zn
  refine r_istore dX10_isValue_75 rfl rfl ?_
  refine r_aload_n dX10_isValue_77 rfl ?_
  refine r_iload dX10_isValue_78 rfl ?_
  refine r_if_eq (t := 89) dX10_isValue_80 rfl hx20  (fun c1 => ?_) (fun c2 => ?_)
  · have h3 := h.1 c1
    refine r_iload_n dX10_isValue_89 rfl ?_
    refine n_callV (N := M_X10_digits) (As := [iV x3]) (st := []) dX10_isValue_90 mk_X10_digits km_RX10_251 kd_X10_digits rfl (zlt hn rfl) sh_73 (q := (RX10, TX10, 52)) rfl rfl (zFits_rm d n n n (Nat.le_refl n)) (Nat.le_of_ble_eq_true rfl) rfl k0 h3 ?_
    rintro _ σ5 k6 ⟨v4, rfl, h7, h8⟩
    change Zm _ _ _ _ _ _ 93 _ [iV v4] _
    refine r_istore dX10_isValue_93 rfl rfl ?_
    refine r_aload_n dX10_isValue_95 rfl ?_
    refine r_getP (a := 83) dX10_isValue_96 kf_RX10_39 (zlt hn rfl) sh_73 rfl (k6.1 _ _ _ (zlt hn rfl) p_73_9) ?_
    refine r_aload_n dX10_isValue_99 rfl ?_
    refine r_getI dX10_isValue_100 kf_RX10_219 (zlt hn rfl) sh_73 (Or.inl rfl) rfl ?_
    refine r_iload dX10_isValue_103 rfl ?_
    refine r_if_eq (t := 114) dX10_isValue_105 rfl hx20  (fun c9 => ?_) (fun c10 => ?_)
    · have h11 := h8.1 c9
      refine r_iload dX10_isValue_114 rfl ?_
      obtain ⟨h12, h13⟩ := h11
      refine r_iastore dX10_isValue_116 (zlt hn rfl) sh_83 h12.1 h12.2 ?_
      have k14 := zok_i (i := (gI σ5 73 28).toNat) (x := v4) k6 sh_83 h7
      refine r_iload dX10_isValue_117 rfl ?_
      refine r_if_lt (t := 134) dX10_isValue_119 rfl h7  (fun c15 => ?_) (fun c16 => ?_)
      · have h17 := h13.1 c15
        refine r_iconst dX10_isValue_134 ?_
        exact r_zreturn dX10_isValue_135 rfl (Or.inl rfl) ⟨k14, _, rfl, (Or.inl rfl), h17⟩
      · have h18 := h13.2 c16
        refine r_iload dX10_isValue_122 rfl ?_
        refine r_sipush dX10_isValue_124 rfl ?_
        refine r_icmp_gt (t := 134) dX10_isValue_127 rfl h7 (r32c rfl) (fun c19 => ?_) (fun c20 => ?_)
        · have h21 := h18.1 c19
          refine r_iconst dX10_isValue_134 ?_
          exact r_zreturn dX10_isValue_135 rfl (Or.inl rfl) ⟨k14, _, rfl, (Or.inl rfl), h21⟩
        · have h22 := h18.2 c20
          refine r_iconst dX10_isValue_130 ?_
          refine r_goto (t := 135) dX10_isValue_131 rfl ?_
          exact r_zreturn dX10_isValue_135 rfl (Or.inr rfl) ⟨k14, _, rfl, (Or.inr rfl), h22⟩
    · have h23 := h8.2 c10
      refine r_iload dX10_isValue_108 rfl ?_
      refine r_ineg dX10_isValue_110 ?_
      refine r_goto (t := 116) dX10_isValue_111 rfl ?_
      obtain ⟨h24, h25⟩ := h23
      obtain ⟨h27, h28⟩ := h25
      refine r_iastore dX10_isValue_116 (zlt hn rfl) sh_83 h24.1 h24.2 ?_
      have k26 := zok_i (i := (gI σ5 73 28).toNat) (x := -v4) k6 sh_83 h27
      refine r_iload dX10_isValue_117 rfl ?_
      refine r_if_lt (t := 134) dX10_isValue_119 rfl h7  (fun c29 => ?_) (fun c30 => ?_)
      · have h31 := h28.1 c29
        refine r_iconst dX10_isValue_134 ?_
        exact r_zreturn dX10_isValue_135 rfl (Or.inl rfl) ⟨k26, _, rfl, (Or.inl rfl), h31⟩
      · have h32 := h28.2 c30
        refine r_iload dX10_isValue_122 rfl ?_
        refine r_sipush dX10_isValue_124 rfl ?_
        refine r_icmp_gt (t := 134) dX10_isValue_127 rfl h7 (r32c rfl) (fun c33 => ?_) (fun c34 => ?_)
        · have h35 := h32.1 c33
          refine r_iconst dX10_isValue_134 ?_
          exact r_zreturn dX10_isValue_135 rfl (Or.inl rfl) ⟨k26, _, rfl, (Or.inl rfl), h35⟩
        · have h36 := h32.2 c34
          refine r_iconst dX10_isValue_130 ?_
          refine r_goto (t := 135) dX10_isValue_131 rfl ?_
          exact r_zreturn dX10_isValue_135 rfl (Or.inr rfl) ⟨k26, _, rfl, (Or.inr rfl), h36⟩
  · have h37 := h.2 c2
    refine r_iload_n dX10_isValue_83 rfl ?_
    refine r_iconst dX10_isValue_84 ?_
    refine r_iadd dX10_isValue_85 ?_
    refine r_goto (t := 90) dX10_isValue_86 rfl ?_
    refine n_callV (N := M_X10_digits) (As := [iV (x3 + 1)]) (st := []) dX10_isValue_90 mk_X10_digits km_RX10_251 kd_X10_digits rfl (zlt hn rfl) sh_73 (q := (RX10, TX10, 52)) rfl rfl (zFits_rm d n n n (Nat.le_refl n)) (Nat.le_of_ble_eq_true rfl) rfl k0 h37 ?_
    rintro _ σ39 k40 ⟨v38, rfl, h41, h42⟩
    change Zm _ _ _ _ _ _ 93 _ [iV v38] _
    refine r_istore dX10_isValue_93 rfl rfl ?_
    refine r_aload_n dX10_isValue_95 rfl ?_
    refine r_getP (a := 83) dX10_isValue_96 kf_RX10_39 (zlt hn rfl) sh_73 rfl (k40.1 _ _ _ (zlt hn rfl) p_73_9) ?_
    refine r_aload_n dX10_isValue_99 rfl ?_
    refine r_getI dX10_isValue_100 kf_RX10_219 (zlt hn rfl) sh_73 (Or.inl rfl) rfl ?_
    refine r_iload dX10_isValue_103 rfl ?_
    refine r_if_eq (t := 114) dX10_isValue_105 rfl hx20  (fun c43 => ?_) (fun c44 => ?_)
    · have h45 := h42.1 c43
      refine r_iload dX10_isValue_114 rfl ?_
      obtain ⟨h46, h47⟩ := h45
      refine r_iastore dX10_isValue_116 (zlt hn rfl) sh_83 h46.1 h46.2 ?_
      have k48 := zok_i (i := (gI σ39 73 28).toNat) (x := v38) k40 sh_83 h41
      refine r_iload dX10_isValue_117 rfl ?_
      refine r_if_lt (t := 134) dX10_isValue_119 rfl h41  (fun c49 => ?_) (fun c50 => ?_)
      · have h51 := h47.1 c49
        refine r_iconst dX10_isValue_134 ?_
        exact r_zreturn dX10_isValue_135 rfl (Or.inl rfl) ⟨k48, _, rfl, (Or.inl rfl), h51⟩
      · have h52 := h47.2 c50
        refine r_iload dX10_isValue_122 rfl ?_
        refine r_sipush dX10_isValue_124 rfl ?_
        refine r_icmp_gt (t := 134) dX10_isValue_127 rfl h41 (r32c rfl) (fun c53 => ?_) (fun c54 => ?_)
        · have h55 := h52.1 c53
          refine r_iconst dX10_isValue_134 ?_
          exact r_zreturn dX10_isValue_135 rfl (Or.inl rfl) ⟨k48, _, rfl, (Or.inl rfl), h55⟩
        · have h56 := h52.2 c54
          refine r_iconst dX10_isValue_130 ?_
          refine r_goto (t := 135) dX10_isValue_131 rfl ?_
          exact r_zreturn dX10_isValue_135 rfl (Or.inr rfl) ⟨k48, _, rfl, (Or.inr rfl), h56⟩
    · have h57 := h42.2 c44
      refine r_iload dX10_isValue_108 rfl ?_
      refine r_ineg dX10_isValue_110 ?_
      refine r_goto (t := 116) dX10_isValue_111 rfl ?_
      obtain ⟨h58, h59⟩ := h57
      obtain ⟨h61, h62⟩ := h59
      refine r_iastore dX10_isValue_116 (zlt hn rfl) sh_83 h58.1 h58.2 ?_
      have k60 := zok_i (i := (gI σ39 73 28).toNat) (x := -v38) k40 sh_83 h61
      refine r_iload dX10_isValue_117 rfl ?_
      refine r_if_lt (t := 134) dX10_isValue_119 rfl h41  (fun c63 => ?_) (fun c64 => ?_)
      · have h65 := h62.1 c63
        refine r_iconst dX10_isValue_134 ?_
        exact r_zreturn dX10_isValue_135 rfl (Or.inl rfl) ⟨k60, _, rfl, (Or.inl rfl), h65⟩
      · have h66 := h62.2 c64
        refine r_iload dX10_isValue_122 rfl ?_
        refine r_sipush dX10_isValue_124 rfl ?_
        refine r_icmp_gt (t := 134) dX10_isValue_127 rfl h41 (r32c rfl) (fun c67 => ?_) (fun c68 => ?_)
        · have h69 := h66.1 c67
          refine r_iconst dX10_isValue_134 ?_
          exact r_zreturn dX10_isValue_135 rfl (Or.inl rfl) ⟨k60, _, rfl, (Or.inl rfl), h69⟩
        · have h70 := h66.2 c68
          refine r_iconst dX10_isValue_130 ?_
          refine r_goto (t := 135) dX10_isValue_131 rfl ?_
          exact r_zreturn dX10_isValue_135 rfl (Or.inr rfl) ⟨k60, _, rfl, (Or.inr rfl), h70⟩
theorem b_X10_isValue_154 {X : ZX} {d n : Nat} {P : Int → ZSto → Prop} {x1 : Int} {x2 : Int} {x3 : Int} {x4 : Int} {σ : ZSto} (hn : 104 ≤ n) 
    (h : (¬ gI σ 73 24 = x3 → (0 ≤ x1 ∧ x1 < 500) ∧ (¬ x2 = 4 → (0 ≤ x4 → P 1 (sI (sI (sI σ 75 x1.toNat 1) 76 x1.toNat 2) 77 x1.toNat x4)) ∧ (¬ (0 ≤ x4) → (¬ gI σ 73 24 = x3 → P 0 (sI (sI (sI σ 75 x1.toNat 1) 76 x1.toNat 2) 77 x1.toNat x4)) ∧ (gI σ 73 24 = x3 → P 1 (sI (sI (sI σ 75 x1.toNat 1) 76 x1.toNat 2) 77 x1.toNat x4)))) ∧ (x2 = 4 → (0 ≤ x4 → P 1 (sI (sI (sI σ 75 x1.toNat 1) 76 x1.toNat 1) 77 x1.toNat x4)) ∧ (¬ (0 ≤ x4) → (¬ gI σ 73 24 = x3 → P 0 (sI (sI (sI σ 75 x1.toNat 1) 76 x1.toNat 1) 77 x1.toNat x4)) ∧ (gI σ 73 24 = x3 → P 1 (sI (sI (sI σ 75 x1.toNat 1) 76 x1.toNat 1) 77 x1.toNat x4))))) ∧ (gI σ 73 24 = x3 → (0 ≤ x1 ∧ x1 < 500) ∧ (¬ x2 = 4 → (0 ≤ x4 → P 1 (sI (sI (sI σ 75 x1.toNat 2) 76 x1.toNat 2) 77 x1.toNat x4)) ∧ (¬ (0 ≤ x4) → (¬ gI σ 73 24 = x3 → P 0 (sI (sI (sI σ 75 x1.toNat 2) 76 x1.toNat 2) 77 x1.toNat x4)) ∧ (gI σ 73 24 = x3 → P 1 (sI (sI (sI σ 75 x1.toNat 2) 76 x1.toNat 2) 77 x1.toNat x4)))) ∧ (x2 = 4 → (0 ≤ x4 → P 1 (sI (sI (sI σ 75 x1.toNat 2) 76 x1.toNat 1) 77 x1.toNat x4)) ∧ (¬ (0 ≤ x4) → (¬ gI σ 73 24 = x3 → P 0 (sI (sI (sI σ 75 x1.toNat 2) 76 x1.toNat 1) 77 x1.toNat x4)) ∧ (gI σ 73 24 = x3 → P 1 (sI (sI (sI σ 75 x1.toNat 2) 76 x1.toNat 1) 77 x1.toNat x4)))))) :
    L_X10_isValue_154 X d n (zpZ P) x1 x2 x3 x4 σ := by
  intro hx1 hx2 hx3 hx4 k0
  unfold Zn
  refine r_aload_n dX10_isValue_154 rfl ?_
  refine r_getP (a := 75) dX10_isValue_155 kf_RX10_13 (zlt hn rfl) sh_73 rfl (k0.1 _ _ _ (zlt hn rfl) p_73_1) ?_
  refine r_iload_n dX10_isValue_158 rfl ?_
  refine r_aload_n dX10_isValue_159 rfl ?_
  refine r_getI dX10_isValue_160 kf_RX10_201 (zlt hn rfl) sh_73 (Or.inl rfl) rfl ?_
  refine r_iload_n dX10_isValue_163 rfl ?_
  refine r_icmp_ne (t := 171) dX10_isValue_164 rfl (k0.2.1 _ _) hx3 (fun c1 => ?_) (fun c2 => ?_)
  · have h3 := h.1 c1
    refine r_iconst dX10_isValue_171 ?_
    obtain ⟨h4, h5⟩ := h3
    refine r_iastore dX10_isValue_172 (zlt hn rfl) sh_75 h4.1 h4.2 ?_
    have k6 := zok_i (i := x1.toNat) (x := 1) k0 sh_75 (r32c rfl)
    refine r_aload_n dX10_isValue_173 rfl ?_
    refine r_getP (a := 76) dX10_isValue_174 kf_RX10_16 (zlt hn rfl) sh_73 rfl (k6.1 _ _ _ (zlt hn rfl) p_73_2) ?_
    refine r_iload_n dX10_isValue_177 rfl ?_
    refine r_iload_n dX10_isValue_178 rfl ?_
    refine r_iconst dX10_isValue_179 ?_
    refine r_icmp_ne (t := 187) dX10_isValue_180 rfl hx2 (r32c rfl) (fun c7 => ?_) (fun c8 => ?_)
    · have h9 := h5.1 c7
      refine r_iconst dX10_isValue_187 ?_
      refine r_iastore dX10_isValue_188 (zlt hn rfl) sh_76 h4.1 h4.2 ?_
      have k10 := zok_i (i := x1.toNat) (x := 2) k6 sh_76 (r32c rfl)
      refine r_aload_n dX10_isValue_189 rfl ?_
      refine r_getP (a := 77) dX10_isValue_190 kf_RX10_19 (zlt hn rfl) sh_73 rfl (k10.1 _ _ _ (zlt hn rfl) p_73_3) ?_
      refine r_iload_n dX10_isValue_193 rfl ?_
      refine r_iload dX10_isValue_194 rfl ?_
      refine r_iastore dX10_isValue_196 (zlt hn rfl) sh_77 h4.1 h4.2 ?_
      have k11 := zok_i (i := x1.toNat) (x := x4) k10 sh_77 hx4
      refine r_iload dX10_isValue_197 rfl ?_
      refine r_if_ge (t := 210) dX10_isValue_199 rfl hx4  (fun c12 => ?_) (fun c13 => ?_)
      · have h14 := h9.1 c12
        refine r_iconst dX10_isValue_210 ?_
        refine r_goto (t := 215) dX10_isValue_211 rfl ?_
        exact r_zreturn dX10_isValue_215 rfl (Or.inr rfl) ⟨k11, _, rfl, (Or.inr rfl), h14⟩
      · have h15 := h9.2 c13
        refine r_aload_n dX10_isValue_202 rfl ?_
        refine r_getI dX10_isValue_203 kf_RX10_201 (zlt hn rfl) sh_73 (Or.inl rfl) ((gI_c (by decide)).trans ((gI_c (by decide)).trans (gI_c (by decide)))) ?_
        refine r_iload_n dX10_isValue_206 rfl ?_
        refine r_icmp_ne (t := 214) dX10_isValue_207 rfl (k0.2.1 _ _) hx3 (fun c16 => ?_) (fun c17 => ?_)
        · have h18 := h15.1 c16
          refine r_iconst dX10_isValue_214 ?_
          exact r_zreturn dX10_isValue_215 rfl (Or.inl rfl) ⟨k11, _, rfl, (Or.inl rfl), h18⟩
        · have h19 := h15.2 c17
          refine r_iconst dX10_isValue_210 ?_
          refine r_goto (t := 215) dX10_isValue_211 rfl ?_
          exact r_zreturn dX10_isValue_215 rfl (Or.inr rfl) ⟨k11, _, rfl, (Or.inr rfl), h19⟩
    · have h20 := h5.2 c8
      refine r_iconst dX10_isValue_183 ?_
      refine r_goto (t := 188) dX10_isValue_184 rfl ?_
      refine r_iastore dX10_isValue_188 (zlt hn rfl) sh_76 h4.1 h4.2 ?_
      have k21 := zok_i (i := x1.toNat) (x := 1) k6 sh_76 (r32c rfl)
      refine r_aload_n dX10_isValue_189 rfl ?_
      refine r_getP (a := 77) dX10_isValue_190 kf_RX10_19 (zlt hn rfl) sh_73 rfl (k21.1 _ _ _ (zlt hn rfl) p_73_3) ?_
      refine r_iload_n dX10_isValue_193 rfl ?_
      refine r_iload dX10_isValue_194 rfl ?_
      refine r_iastore dX10_isValue_196 (zlt hn rfl) sh_77 h4.1 h4.2 ?_
      have k22 := zok_i (i := x1.toNat) (x := x4) k21 sh_77 hx4
      refine r_iload dX10_isValue_197 rfl ?_
      refine r_if_ge (t := 210) dX10_isValue_199 rfl hx4  (fun c23 => ?_) (fun c24 => ?_)
      · have h25 := h20.1 c23
        refine r_iconst dX10_isValue_210 ?_
        refine r_goto (t := 215) dX10_isValue_211 rfl ?_
        exact r_zreturn dX10_isValue_215 rfl (Or.inr rfl) ⟨k22, _, rfl, (Or.inr rfl), h25⟩
      · have h26 := h20.2 c24
        refine r_aload_n dX10_isValue_202 rfl ?_
        refine r_getI dX10_isValue_203 kf_RX10_201 (zlt hn rfl) sh_73 (Or.inl rfl) ((gI_c (by decide)).trans ((gI_c (by decide)).trans (gI_c (by decide)))) ?_
        refine r_iload_n dX10_isValue_206 rfl ?_
        refine r_icmp_ne (t := 214) dX10_isValue_207 rfl (k0.2.1 _ _) hx3 (fun c27 => ?_) (fun c28 => ?_)
        · have h29 := h26.1 c27
          refine r_iconst dX10_isValue_214 ?_
          exact r_zreturn dX10_isValue_215 rfl (Or.inl rfl) ⟨k22, _, rfl, (Or.inl rfl), h29⟩
        · have h30 := h26.2 c28
          refine r_iconst dX10_isValue_210 ?_
          refine r_goto (t := 215) dX10_isValue_211 rfl ?_
          exact r_zreturn dX10_isValue_215 rfl (Or.inr rfl) ⟨k22, _, rfl, (Or.inr rfl), h30⟩
  · have h31 := h.2 c2
    refine r_iconst dX10_isValue_167 ?_
    refine r_goto (t := 172) dX10_isValue_168 rfl ?_
    obtain ⟨h32, h33⟩ := h31
    refine r_iastore dX10_isValue_172 (zlt hn rfl) sh_75 h32.1 h32.2 ?_
    have k34 := zok_i (i := x1.toNat) (x := 2) k0 sh_75 (r32c rfl)
    refine r_aload_n dX10_isValue_173 rfl ?_
    refine r_getP (a := 76) dX10_isValue_174 kf_RX10_16 (zlt hn rfl) sh_73 rfl (k34.1 _ _ _ (zlt hn rfl) p_73_2) ?_
    refine r_iload_n dX10_isValue_177 rfl ?_
    refine r_iload_n dX10_isValue_178 rfl ?_
    refine r_iconst dX10_isValue_179 ?_
    refine r_icmp_ne (t := 187) dX10_isValue_180 rfl hx2 (r32c rfl) (fun c35 => ?_) (fun c36 => ?_)
    · have h37 := h33.1 c35
      refine r_iconst dX10_isValue_187 ?_
      refine r_iastore dX10_isValue_188 (zlt hn rfl) sh_76 h32.1 h32.2 ?_
      have k38 := zok_i (i := x1.toNat) (x := 2) k34 sh_76 (r32c rfl)
      refine r_aload_n dX10_isValue_189 rfl ?_
      refine r_getP (a := 77) dX10_isValue_190 kf_RX10_19 (zlt hn rfl) sh_73 rfl (k38.1 _ _ _ (zlt hn rfl) p_73_3) ?_
      refine r_iload_n dX10_isValue_193 rfl ?_
      refine r_iload dX10_isValue_194 rfl ?_
      refine r_iastore dX10_isValue_196 (zlt hn rfl) sh_77 h32.1 h32.2 ?_
      have k39 := zok_i (i := x1.toNat) (x := x4) k38 sh_77 hx4
      refine r_iload dX10_isValue_197 rfl ?_
      refine r_if_ge (t := 210) dX10_isValue_199 rfl hx4  (fun c40 => ?_) (fun c41 => ?_)
      · have h42 := h37.1 c40
        refine r_iconst dX10_isValue_210 ?_
        refine r_goto (t := 215) dX10_isValue_211 rfl ?_
        exact r_zreturn dX10_isValue_215 rfl (Or.inr rfl) ⟨k39, _, rfl, (Or.inr rfl), h42⟩
      · have h43 := h37.2 c41
        refine r_aload_n dX10_isValue_202 rfl ?_
        refine r_getI dX10_isValue_203 kf_RX10_201 (zlt hn rfl) sh_73 (Or.inl rfl) ((gI_c (by decide)).trans ((gI_c (by decide)).trans (gI_c (by decide)))) ?_
        refine r_iload_n dX10_isValue_206 rfl ?_
        refine r_icmp_ne (t := 214) dX10_isValue_207 rfl (k0.2.1 _ _) hx3 (fun c44 => ?_) (fun c45 => ?_)
        · have h46 := h43.1 c44
          refine r_iconst dX10_isValue_214 ?_
          exact r_zreturn dX10_isValue_215 rfl (Or.inl rfl) ⟨k39, _, rfl, (Or.inl rfl), h46⟩
        · have h47 := h43.2 c45
          refine r_iconst dX10_isValue_210 ?_
          refine r_goto (t := 215) dX10_isValue_211 rfl ?_
          exact r_zreturn dX10_isValue_215 rfl (Or.inr rfl) ⟨k39, _, rfl, (Or.inr rfl), h47⟩
    · have h48 := h33.2 c36
      refine r_iconst dX10_isValue_183 ?_
      refine r_goto (t := 188) dX10_isValue_184 rfl ?_
      refine r_iastore dX10_isValue_188 (zlt hn rfl) sh_76 h32.1 h32.2 ?_
      have k49 := zok_i (i := x1.toNat) (x := 1) k34 sh_76 (r32c rfl)
      refine r_aload_n dX10_isValue_189 rfl ?_
      refine r_getP (a := 77) dX10_isValue_190 kf_RX10_19 (zlt hn rfl) sh_73 rfl (k49.1 _ _ _ (zlt hn rfl) p_73_3) ?_
      refine r_iload_n dX10_isValue_193 rfl ?_
      refine r_iload dX10_isValue_194 rfl ?_
      refine r_iastore dX10_isValue_196 (zlt hn rfl) sh_77 h32.1 h32.2 ?_
      have k50 := zok_i (i := x1.toNat) (x := x4) k49 sh_77 hx4
      refine r_iload dX10_isValue_197 rfl ?_
      refine r_if_ge (t := 210) dX10_isValue_199 rfl hx4  (fun c51 => ?_) (fun c52 => ?_)
      · have h53 := h48.1 c51
        refine r_iconst dX10_isValue_210 ?_
        refine r_goto (t := 215) dX10_isValue_211 rfl ?_
        exact r_zreturn dX10_isValue_215 rfl (Or.inr rfl) ⟨k50, _, rfl, (Or.inr rfl), h53⟩
      · have h54 := h48.2 c52
        refine r_aload_n dX10_isValue_202 rfl ?_
        refine r_getI dX10_isValue_203 kf_RX10_201 (zlt hn rfl) sh_73 (Or.inl rfl) ((gI_c (by decide)).trans ((gI_c (by decide)).trans (gI_c (by decide)))) ?_
        refine r_iload_n dX10_isValue_206 rfl ?_
        refine r_icmp_ne (t := 214) dX10_isValue_207 rfl (k0.2.1 _ _) hx3 (fun c55 => ?_) (fun c56 => ?_)
        · have h57 := h54.1 c55
          refine r_iconst dX10_isValue_214 ?_
          exact r_zreturn dX10_isValue_215 rfl (Or.inl rfl) ⟨k50, _, rfl, (Or.inl rfl), h57⟩
        · have h58 := h54.2 c56
          refine r_iconst dX10_isValue_210 ?_
          refine r_goto (t := 215) dX10_isValue_211 rfl ?_
          exact r_zreturn dX10_isValue_215 rfl (Or.inr rfl) ⟨k50, _, rfl, (Or.inr rfl), h58⟩
/-! StoneRoomModel.puts -/
theorem dX10_puts_0 : decode M_X10_puts.2.1 0 = .ok (.aload_n 0, 1) := by decide +kernel
theorem dX10_puts_1 : decode M_X10_puts.2.1 1 = .ok (.getfield 68, 3) := by decide +kernel
theorem dX10_puts_4 : decode M_X10_puts.2.1 4 = .ok (.aload_n 0, 1) := by decide +kernel
theorem dX10_puts_5 : decode M_X10_puts.2.1 5 = .ok (.getfield 257, 3) := by decide +kernel
theorem dX10_puts_8 : decode M_X10_puts.2.1 8 = .ok (.iload_n 1, 1) := by decide +kernel
theorem dX10_puts_9 : decode M_X10_puts.2.1 9 = .ok (.i2b, 1) := by decide +kernel
theorem dX10_puts_10 : decode M_X10_puts.2.1 10 = .ok (.bastore, 1) := by decide +kernel
theorem dX10_puts_11 : decode M_X10_puts.2.1 11 = .ok (.aload_n 0, 1) := by decide +kernel
theorem dX10_puts_12 : decode M_X10_puts.2.1 12 = .ok (.dup, 1) := by decide +kernel
theorem dX10_puts_13 : decode M_X10_puts.2.1 13 = .ok (.getfield 257, 3) := by decide +kernel
theorem dX10_puts_16 : decode M_X10_puts.2.1 16 = .ok (.iconst 1, 1) := by decide +kernel
theorem dX10_puts_17 : decode M_X10_puts.2.1 17 = .ok (.iadd, 1) := by decide +kernel
theorem dX10_puts_18 : decode M_X10_puts.2.1 18 = .ok (.putfield 257, 3) := by decide +kernel
theorem dX10_puts_21 : decode M_X10_puts.2.1 21 = .ok (.return_, 1) := by decide +kernel
theorem w_X10_puts {X : ZX} {d n : Nat} {P : ZSto → Prop} {x1 : Int} {σ : ZSto} (hn : 104 ≤ n)  (hx1 : R32 x1)
    (h : (0 ≤ gI σ 73 31 ∧ gI σ 73 31 < 9000) ∧ R32 ((gI σ 73 31) + 1) ∧ P (sI (sI σ 90 ((gI σ 73 31).toNat) (w8 x1)) 73 31 ((gI σ 73 31) + 1))) :
    ZkV X M_X10_puts (d + 1) n [.ref (zB X + 73), iV x1] σ P := by
  refine zk_of (ls := [some (.ref (zB X + 73)), some (iV x1)]) pl_RX10 (Nat.le_of_ble_eq_true rfl) rfl (fun k0 => ?_)
  unfold Zn
  refine r_aload_n dX10_puts_0 rfl ?_
  refine r_getP (a := 90) dX10_puts_1 kf_RX10_68 (zlt hn rfl) sh_73 rfl (k0.1 _ _ _ (zlt hn rfl) p_73_30) ?_
  refine r_aload_n dX10_puts_4 rfl ?_
  refine r_getI dX10_puts_5 kf_RX10_257 (zlt hn rfl) sh_73 (Or.inl rfl) rfl ?_
  refine r_iload_n dX10_puts_8 rfl ?_
  refine r_i2b dX10_puts_9 ?_
  obtain ⟨h1, h2⟩ := h
  refine r_bastore dX10_puts_10 (zlt hn rfl) sh_90 h1.1 h1.2 (w8_lo _) (w8_hi _) ?_
  have k3 := zok_b (i := (gI σ 73 31).toNat) (x := w8 x1) k0 sh_90 (w8_lo _) (w8_hi _)
  refine r_aload_n dX10_puts_11 rfl ?_
  refine r_dup dX10_puts_12 rfl ?_
  refine r_getI dX10_puts_13 kf_RX10_257 (zlt hn rfl) sh_73 (Or.inl rfl) (gI_c (by decide)) ?_
  refine r_iconst dX10_puts_16 ?_
  refine r_iadd dX10_puts_17 ?_
  obtain ⟨h4, h5⟩ := h2
  refine r_putI dX10_puts_18 kf_RX10_257 (zlt hn rfl) sh_73 rfl (Or.inl rfl) ?_
  have k6 := zok_o (i := 31) (x := (gI σ 73 31) + 1) k3 sh_73 h4
  exact r_return dX10_puts_21 rfl ⟨k6, rfl, h5⟩
/-! StoneRoomModel.putsPoint -/
theorem dX10_putsPoint_0 : decode M_X10_putsPoint.2.1 0 = .ok (.aload_n 0, 1) := by decide +kernel
theorem dX10_putsPoint_1 : decode M_X10_putsPoint.2.1 1 = .ok (.bipush 91, 2) := by decide +kernel
theorem dX10_putsPoint_3 : decode M_X10_putsPoint.2.1 3 = .ok (.invokevirtual 260, 3) := by decide +kernel
theorem dX10_putsPoint_6 : decode M_X10_putsPoint.2.1 6 = .ok (.iload_n 1, 1) := by decide +kernel
theorem dX10_putsPoint_7 : decode M_X10_putsPoint.2.1 7 = .ok (.ifCond .lt 29, 3) := by decide +kernel
theorem dX10_putsPoint_10 : decode M_X10_putsPoint.2.1 10 = .ok (.aload_n 0, 1) := by decide +kernel
theorem dX10_putsPoint_11 : decode M_X10_putsPoint.2.1 11 = .ok (.bipush 97, 2) := by decide +kernel
theorem dX10_putsPoint_13 : decode M_X10_putsPoint.2.1 13 = .ok (.iload_n 1, 1) := by decide +kernel
theorem dX10_putsPoint_14 : decode M_X10_putsPoint.2.1 14 = .ok (.aload_n 0, 1) := by decide +kernel
theorem dX10_putsPoint_15 : decode M_X10_putsPoint.2.1 15 = .ok (.getfield 139, 3) := by decide +kernel
theorem dX10_putsPoint_18 : decode M_X10_putsPoint.2.1 18 = .ok (.irem, 1) := by decide +kernel
theorem dX10_putsPoint_19 : decode M_X10_putsPoint.2.1 19 = .ok (.iadd, 1) := by decide +kernel
theorem dX10_putsPoint_20 : decode M_X10_putsPoint.2.1 20 = .ok (.invokevirtual 260, 3) := by decide +kernel
theorem dX10_putsPoint_23 : decode M_X10_putsPoint.2.1 23 = .ok (.aload_n 0, 1) := by decide +kernel
theorem dX10_putsPoint_24 : decode M_X10_putsPoint.2.1 24 = .ok (.bipush 97, 2) := by decide +kernel
theorem dX10_putsPoint_26 : decode M_X10_putsPoint.2.1 26 = .ok (.iload_n 1, 1) := by decide +kernel
theorem dX10_putsPoint_27 : decode M_X10_putsPoint.2.1 27 = .ok (.aload_n 0, 1) := by decide +kernel
theorem dX10_putsPoint_28 : decode M_X10_putsPoint.2.1 28 = .ok (.getfield 139, 3) := by decide +kernel
theorem dX10_putsPoint_31 : decode M_X10_putsPoint.2.1 31 = .ok (.idiv, 1) := by decide +kernel
theorem dX10_putsPoint_32 : decode M_X10_putsPoint.2.1 32 = .ok (.iadd, 1) := by decide +kernel
theorem dX10_putsPoint_33 : decode M_X10_putsPoint.2.1 33 = .ok (.invokevirtual 260, 3) := by decide +kernel
theorem dX10_putsPoint_36 : decode M_X10_putsPoint.2.1 36 = .ok (.aload_n 0, 1) := by decide +kernel
theorem dX10_putsPoint_37 : decode M_X10_putsPoint.2.1 37 = .ok (.bipush 93, 2) := by decide +kernel
theorem dX10_putsPoint_39 : decode M_X10_putsPoint.2.1 39 = .ok (.invokevirtual 260, 3) := by decide +kernel
theorem dX10_putsPoint_42 : decode M_X10_putsPoint.2.1 42 = .ok (.return_, 1) := by decide +kernel
theorem w_X10_putsPoint {X : ZX} {d n : Nat} {P : ZSto → Prop} {x1 : Int} {σ : ZSto} (hn : 104 ≤ n)  (hx1 : R32 x1)
    (h : ZkV X M_X10_puts d n [.ref (zB X + 73), iV 91] σ (fun σ2 => (x1 < 0 → ZkV X M_X10_puts d n [.ref (zB X + 73), iV 93] σ2 (fun σ10 => P σ10)) ∧ (¬ (x1 < 0) → (0 < gI σ2 73 13 ∧ gI σ2 73 13 < 2147483648) ∧ (0 ≤ x1 ∧ x1 < 2147483648) ∧ ZkV X M_X10_puts d n [.ref (zB X + 73), iV (97 + (x1 % (gI σ2 73 13)))] σ2 (fun σ20 => (0 < gI σ20 73 13 ∧ gI σ20 73 13 < 2147483648) ∧ ZkV X M_X10_puts d n [.ref (zB X + 73), iV (97 + (x1 / (gI σ20 73 13)))] σ20 (fun σ27 => ZkV X M_X10_puts d n [.ref (zB X + 73), iV 93] σ27 (fun σ32 => P σ32)))))) :
    ZkV X M_X10_putsPoint (d + 1) n [.ref (zB X + 73), iV x1] σ P := by
  refine zk_of (ls := [some (.ref (zB X + 73)), some (iV x1)]) pl_RX10 (Nat.le_of_ble_eq_true rfl) rfl (fun k0 => ?_)
  unfold Zn
  refine r_aload_n dX10_putsPoint_0 rfl ?_
  refine r_bipush dX10_putsPoint_1 rfl ?_
  refine n_callV (N := M_X10_puts) (As := [iV 91]) (st := []) dX10_putsPoint_3 mk_X10_puts km_RX10_260 kd_X10_puts rfl (zlt hn rfl) sh_73 (q := (RX10, TX10, 52)) rfl rfl (zFits_rm d n n n (Nat.le_refl n)) (Nat.le_of_ble_eq_true rfl) rfl k0 h ?_
  rintro _ σ2 k3 ⟨rfl, h5⟩
  change Zm _ _ _ _ _ _ 6 _ [] _
  refine r_iload_n dX10_putsPoint_6 rfl ?_
  refine r_if_lt (t := 36) dX10_putsPoint_7 rfl hx1  (fun c6 => ?_) (fun c7 => ?_)
  · have h8 := h5.1 c6
    refine r_aload_n dX10_putsPoint_36 rfl ?_
    refine r_bipush dX10_putsPoint_37 rfl ?_
    refine n_callV (N := M_X10_puts) (As := [iV 93]) (st := []) dX10_putsPoint_39 mk_X10_puts km_RX10_260 kd_X10_puts rfl (zlt hn rfl) sh_73 (q := (RX10, TX10, 52)) rfl rfl (zFits_rm d n n n (Nat.le_refl n)) (Nat.le_of_ble_eq_true rfl) rfl k3 h8 ?_
    rintro _ σ10 k11 ⟨rfl, h13⟩
    change Zm _ _ _ _ _ _ 42 _ [] _
    exact r_return dX10_putsPoint_42 rfl ⟨k11, rfl, h13⟩
  · have h14 := h5.2 c7
    refine r_aload_n dX10_putsPoint_10 rfl ?_
    refine r_bipush dX10_putsPoint_11 rfl ?_
    refine r_iload_n dX10_putsPoint_13 rfl ?_
    refine r_aload_n dX10_putsPoint_14 rfl ?_
    refine r_getI dX10_putsPoint_15 kf_RX10_139 (zlt hn rfl) sh_73 (Or.inl rfl) rfl ?_
    obtain ⟨h15, h16⟩ := h14
    obtain ⟨h17, h18⟩ := h16
    refine r_irem dX10_putsPoint_18 h17.1 h17.2 h15.1 h15.2 ?_
    refine r_iadd dX10_putsPoint_19 ?_
    refine n_callV (N := M_X10_puts) (As := [iV (97 + (x1 % (gI σ2 73 13)))]) (st := []) dX10_putsPoint_20 mk_X10_puts km_RX10_260 kd_X10_puts rfl (zlt hn rfl) sh_73 (q := (RX10, TX10, 52)) rfl rfl (zFits_rm d n n n (Nat.le_refl n)) (Nat.le_of_ble_eq_true rfl) rfl k3 h18 ?_
    rintro _ σ20 k21 ⟨rfl, h23⟩
    change Zm _ _ _ _ _ _ 23 _ [] _
    refine r_aload_n dX10_putsPoint_23 rfl ?_
    refine r_bipush dX10_putsPoint_24 rfl ?_
    refine r_iload_n dX10_putsPoint_26 rfl ?_
    refine r_aload_n dX10_putsPoint_27 rfl ?_
    refine r_getI dX10_putsPoint_28 kf_RX10_139 (zlt hn rfl) sh_73 (Or.inl rfl) rfl ?_
    obtain ⟨h24, h25⟩ := h23
    refine r_idiv dX10_putsPoint_31 h17.1 h17.2 h24.1 h24.2 ?_
    refine r_iadd dX10_putsPoint_32 ?_
    refine n_callV (N := M_X10_puts) (As := [iV (97 + (x1 / (gI σ20 73 13)))]) (st := []) dX10_putsPoint_33 mk_X10_puts km_RX10_260 kd_X10_puts rfl (zlt hn rfl) sh_73 (q := (RX10, TX10, 52)) rfl rfl (zFits_rm d n n n (Nat.le_refl n)) (Nat.le_of_ble_eq_true rfl) rfl k21 h25 ?_
    rintro _ σ27 k28 ⟨rfl, h30⟩
    change Zm _ _ _ _ _ _ 36 _ [] _
    refine r_aload_n dX10_putsPoint_36 rfl ?_
    refine r_bipush dX10_putsPoint_37 rfl ?_
    refine n_callV (N := M_X10_puts) (As := [iV 93]) (st := []) dX10_putsPoint_39 mk_X10_puts km_RX10_260 kd_X10_puts rfl (zlt hn rfl) sh_73 (q := (RX10, TX10, 52)) rfl rfl (zFits_rm d n n n (Nat.le_refl n)) (Nat.le_of_ble_eq_true rfl) rfl k28 h30 ?_
    rintro _ σ32 k33 ⟨rfl, h35⟩
    change Zm _ _ _ _ _ _ 42 _ [] _
    exact r_return dX10_putsPoint_42 rfl ⟨k33, rfl, h35⟩
/-! StoneRoomModel.putsNumber -/
theorem dX10_putsNumber_0 : decode M_X10_putsNumber.2.1 0 = .ok (.aload_n 0, 1) := by decide +kernel
theorem dX10_putsNumber_1 : decode M_X10_putsNumber.2.1 1 = .ok (.bipush 91, 2) := by decide +kernel
theorem dX10_putsNumber_3 : decode M_X10_putsNumber.2.1 3 = .ok (.invokevirtual 260, 3) := by decide +kernel
theorem dX10_putsNumber_6 : decode M_X10_putsNumber.2.1 6 = .ok (.iload_n 1, 1) := by decide +kernel
theorem dX10_putsNumber_7 : decode M_X10_putsNumber.2.1 7 = .ok (.ifCond .ge 8, 3) := by decide +kernel
theorem dX10_putsNumber_10 : decode M_X10_putsNumber.2.1 10 = .ok (.iload_n 1, 1) := by decide +kernel
theorem dX10_putsNumber_11 : decode M_X10_putsNumber.2.1 11 = .ok (.ineg, 1) := by decide +kernel
theorem dX10_putsNumber_12 : decode M_X10_putsNumber.2.1 12 = .ok (.goto 4, 3) := by decide +kernel
theorem dX10_putsNumber_15 : decode M_X10_putsNumber.2.1 15 = .ok (.iload_n 1, 1) := by decide +kernel
theorem dX10_putsNumber_16 : decode M_X10_putsNumber.2.1 16 = .ok (.istore_n 2, 1) := by decide +kernel
theorem dX10_putsNumber_17 : decode M_X10_putsNumber.2.1 17 = .ok (.iload_n 1, 1) := by decide +kernel
theorem dX10_putsNumber_18 : decode M_X10_putsNumber.2.1 18 = .ok (.ifCond .ge 9, 3) := by decide +kernel
theorem dX10_putsNumber_21 : decode M_X10_putsNumber.2.1 21 = .ok (.aload_n 0, 1) := by decide +kernel
theorem dX10_putsNumber_22 : decode M_X10_putsNumber.2.1 22 = .ok (.bipush 45, 2) := by decide +kernel
theorem dX10_putsNumber_24 : decode M_X10_putsNumber.2.1 24 = .ok (.invokevirtual 260, 3) := by decide +kernel
theorem dX10_putsNumber_27 : decode M_X10_putsNumber.2.1 27 = .ok (.iload_n 2, 1) := by decide +kernel
theorem dX10_putsNumber_28 : decode M_X10_putsNumber.2.1 28 = .ok (.bipush 99, 2) := by decide +kernel
theorem dX10_putsNumber_30 : decode M_X10_putsNumber.2.1 30 = .ok (.if_icmp .le 14, 3) := by decide +kernel
theorem dX10_putsNumber_33 : decode M_X10_putsNumber.2.1 33 = .ok (.aload_n 0, 1) := by decide +kernel
theorem dX10_putsNumber_34 : decode M_X10_putsNumber.2.1 34 = .ok (.bipush 48, 2) := by decide +kernel
theorem dX10_putsNumber_36 : decode M_X10_putsNumber.2.1 36 = .ok (.iload_n 2, 1) := by decide +kernel
theorem dX10_putsNumber_37 : decode M_X10_putsNumber.2.1 37 = .ok (.bipush 100, 2) := by decide +kernel
theorem dX10_putsNumber_39 : decode M_X10_putsNumber.2.1 39 = .ok (.idiv, 1) := by decide +kernel
theorem dX10_putsNumber_40 : decode M_X10_putsNumber.2.1 40 = .ok (.iadd, 1) := by decide +kernel
theorem dX10_putsNumber_41 : decode M_X10_putsNumber.2.1 41 = .ok (.invokevirtual 260, 3) := by decide +kernel
theorem dX10_putsNumber_44 : decode M_X10_putsNumber.2.1 44 = .ok (.iload_n 2, 1) := by decide +kernel
theorem dX10_putsNumber_45 : decode M_X10_putsNumber.2.1 45 = .ok (.bipush 9, 2) := by decide +kernel
theorem dX10_putsNumber_47 : decode M_X10_putsNumber.2.1 47 = .ok (.if_icmp .le 17, 3) := by decide +kernel
theorem dX10_putsNumber_50 : decode M_X10_putsNumber.2.1 50 = .ok (.aload_n 0, 1) := by decide +kernel
theorem dX10_putsNumber_51 : decode M_X10_putsNumber.2.1 51 = .ok (.bipush 48, 2) := by decide +kernel
theorem dX10_putsNumber_53 : decode M_X10_putsNumber.2.1 53 = .ok (.iload_n 2, 1) := by decide +kernel
theorem dX10_putsNumber_54 : decode M_X10_putsNumber.2.1 54 = .ok (.bipush 10, 2) := by decide +kernel
theorem dX10_putsNumber_56 : decode M_X10_putsNumber.2.1 56 = .ok (.idiv, 1) := by decide +kernel
theorem dX10_putsNumber_57 : decode M_X10_putsNumber.2.1 57 = .ok (.bipush 10, 2) := by decide +kernel
theorem dX10_putsNumber_59 : decode M_X10_putsNumber.2.1 59 = .ok (.irem, 1) := by decide +kernel
theorem dX10_putsNumber_60 : decode M_X10_putsNumber.2.1 60 = .ok (.iadd, 1) := by decide +kernel
theorem dX10_putsNumber_61 : decode M_X10_putsNumber.2.1 61 = .ok (.invokevirtual 260, 3) := by decide +kernel
theorem dX10_putsNumber_64 : decode M_X10_putsNumber.2.1 64 = .ok (.aload_n 0, 1) := by decide +kernel
theorem dX10_putsNumber_65 : decode M_X10_putsNumber.2.1 65 = .ok (.bipush 48, 2) := by decide +kernel
theorem dX10_putsNumber_67 : decode M_X10_putsNumber.2.1 67 = .ok (.iload_n 2, 1) := by decide +kernel
theorem dX10_putsNumber_68 : decode M_X10_putsNumber.2.1 68 = .ok (.bipush 10, 2) := by decide +kernel
theorem dX10_putsNumber_70 : decode M_X10_putsNumber.2.1 70 = .ok (.irem, 1) := by decide +kernel
theorem dX10_putsNumber_71 : decode M_X10_putsNumber.2.1 71 = .ok (.iadd, 1) := by decide +kernel
theorem dX10_putsNumber_72 : decode M_X10_putsNumber.2.1 72 = .ok (.invokevirtual 260, 3) := by decide +kernel
theorem dX10_putsNumber_75 : decode M_X10_putsNumber.2.1 75 = .ok (.aload_n 0, 1) := by decide +kernel
theorem dX10_putsNumber_76 : decode M_X10_putsNumber.2.1 76 = .ok (.bipush 93, 2) := by decide +kernel
theorem dX10_putsNumber_78 : decode M_X10_putsNumber.2.1 78 = .ok (.invokevirtual 260, 3) := by decide +kernel
theorem dX10_putsNumber_81 : decode M_X10_putsNumber.2.1 81 = .ok (.return_, 1) := by decide +kernel
def L_X10_putsNumber_16 (X : ZX) (d n : Nat) (P : Option Value → ZSto → Prop) (x1 : Int) (x20 : Int) (σ : ZSto) : Prop := R32 x1 → R32 x20 → ZOk n σ → Zn X M_X10_putsNumber d n P 16 [some (.ref (zB X + 73)), some (iV x1), none] [iV x20] σ
def L_X10_putsNumber_27 (X : ZX) (d n : Nat) (P : Option Value → ZSto → Prop) (x2 : Int) (σ : ZSto) : Prop := R32 x2 → ZOk n σ → Zn X M_X10_putsNumber d n P 27 [some (.ref (zB X + 73)), none, some (iV x2)] [] σ
def L_X10_putsNumber_44 (X : ZX) (d n : Nat) (P : Option Value → ZSto → Prop) (x2 : Int) (σ : ZSto) : Prop := R32 x2 → ZOk n σ → Zn X M_X10_putsNumber d n P 44 [some (.ref (zB X + 73)), none, some (iV x2)] [] σ
theorem w_X10_putsNumber {X : ZX} {d n : Nat} {P : ZSto → Prop} {x1 : Int} {σ : ZSto} (hn : 104 ≤ n)  (hx1 : R32 x1)
    (h : ZkV X M_X10_puts d n [.ref (zB X + 73), iV 91] σ (fun σ2 => (0 ≤ x1 → L_X10_putsNumber_16 X d n (zpV P) x1 x1 σ2) ∧ (¬ (0 ≤ x1) → R32 (-x1) ∧ L_X10_putsNumber_16 X d n (zpV P) x1 (-x1) σ2))) :
    ZkV X M_X10_putsNumber (d + 1) n [.ref (zB X + 73), iV x1] σ P := by
  refine zk_of (ls := [some (.ref (zB X + 73)), some (iV x1), none]) pl_RX10 (Nat.le_of_ble_eq_true rfl) rfl (fun k0 => ?_)
  unfold Zn
  refine r_aload_n dX10_putsNumber_0 rfl ?_
  refine r_bipush dX10_putsNumber_1 rfl ?_
  refine n_callV (N := M_X10_puts) (As := [iV 91]) (st := []) dX10_putsNumber_3 mk_X10_puts km_RX10_260 kd_X10_puts rfl (zlt hn rfl) sh_73 (q := (RX10, TX10, 52)) rfl rfl (zFits_rm d n n n (Nat.le_refl n)) (Nat.le_of_ble_eq_true rfl) rfl k0 h ?_
  rintro _ σ2 k3 ⟨rfl, h5⟩
  change Zm _ _ _ _ _ _ 6 _ [] _
  refine r_iload_n dX10_putsNumber_6 rfl ?_
  refine r_if_ge (t := 15) dX10_putsNumber_7 rfl hx1  (fun c6 => ?_) (fun c7 => ?_)
  · have h8 := h5.1 c6
    refine r_iload_n dX10_putsNumber_15 rfl ?_
    exact r_mask [true, true, false] rfl (h8 hx1 hx1 k3)
  · have h9 := h5.2 c7
    refine r_iload_n dX10_putsNumber_10 rfl ?_
    refine r_ineg dX10_putsNumber_11 ?_
    refine r_goto (t := 16) dX10_putsNumber_12 rfl ?_
    obtain ⟨h10, h11⟩ := h9
    exact r_mask [true, true, false] rfl (h11 hx1 h10 k3)
theorem b_X10_putsNumber_16 {X : ZX} {d n : Nat} {P : ZSto → Prop} {x1 : Int} {x20 : Int} {σ : ZSto} (hn : 104 ≤ n) 
    (h : (0 ≤ x1 → L_X10_putsNumber_27 X d n (zpV P) x20 σ) ∧ (¬ (0 ≤ x1) → ZkV X M_X10_puts d n [.ref (zB X + 73), iV 45] σ (fun σ6 => L_X10_putsNumber_27 X d n (zpV P) x20 σ6))) :
    L_X10_putsNumber_16 X d n (zpV P) x1 x20 σ := by
  intro hx1 hx20 k0
  unfold Zn
  refine r_istore_n dX10_putsNumber_16 rfl rfl ?_
  refine r_iload_n dX10_putsNumber_17 rfl ?_
  refine r_if_ge (t := 27) dX10_putsNumber_18 rfl hx1  (fun c1 => ?_) (fun c2 => ?_)
  · have h3 := h.1 c1
    exact r_mask [true, false, true] rfl (h3 hx20 k0)
  · have h4 := h.2 c2
    refine r_aload_n dX10_putsNumber_21 rfl ?_
    refine r_bipush dX10_putsNumber_22 rfl ?_
    refine n_callV (N := M_X10_puts) (As := [iV 45]) (st := []) dX10_putsNumber_24 mk_X10_puts km_RX10_260 kd_X10_puts rfl (zlt hn rfl) sh_73 (q := (RX10, TX10, 52)) rfl rfl (zFits_rm d n n n (Nat.le_refl n)) (Nat.le_of_ble_eq_true rfl) rfl k0 h4 ?_
    rintro _ σ6 k7 ⟨rfl, h9⟩
    change Zm _ _ _ _ _ _ 27 _ [] _
    exact r_mask [true, false, true] rfl (h9 hx20 k7)
theorem b_X10_putsNumber_27 {X : ZX} {d n : Nat} {P : ZSto → Prop} {x2 : Int} {σ : ZSto} (hn : 104 ≤ n) 
    (h : (x2 ≤ 99 → L_X10_putsNumber_44 X d n (zpV P) x2 σ) ∧ (¬ (x2 ≤ 99) → (0 ≤ x2 ∧ x2 < 2147483648) ∧ ZkV X M_X10_puts d n [.ref (zB X + 73), iV (48 + (x2 / 100))] σ (fun σ8 => L_X10_putsNumber_44 X d n (zpV P) x2 σ8))) :
    L_X10_putsNumber_27 X d n (zpV P) x2 σ := by
  intro hx2 k0
  unfold Zn
  refine r_iload_n dX10_putsNumber_27 rfl ?_
  refine r_bipush dX10_putsNumber_28 rfl ?_
  refine r_icmp_le (t := 44) dX10_putsNumber_30 rfl hx2 (r32c rfl) (fun c1 => ?_) (fun c2 => ?_)
  · have h3 := h.1 c1
    exact r_mask [true, false, true] rfl (h3 hx2 k0)
  · have h4 := h.2 c2
    refine r_aload_n dX10_putsNumber_33 rfl ?_
    refine r_bipush dX10_putsNumber_34 rfl ?_
    refine r_iload_n dX10_putsNumber_36 rfl ?_
    refine r_bipush dX10_putsNumber_37 rfl ?_
    obtain ⟨h5, h6⟩ := h4
    refine r_idiv dX10_putsNumber_39 h5.1 h5.2 (by decide) (by decide) ?_
    refine r_iadd dX10_putsNumber_40 ?_
    refine n_callV (N := M_X10_puts) (As := [iV (48 + (x2 / 100))]) (st := []) dX10_putsNumber_41 mk_X10_puts km_RX10_260 kd_X10_puts rfl (zlt hn rfl) sh_73 (q := (RX10, TX10, 52)) rfl rfl (zFits_rm d n n n (Nat.le_refl n)) (Nat.le_of_ble_eq_true rfl) rfl k0 h6 ?_
    rintro _ σ8 k9 ⟨rfl, h11⟩
    change Zm _ _ _ _ _ _ 44 _ [] _
    exact r_mask [true, false, true] rfl (h11 hx2 k9)
theorem b_X10_putsNumber_44 {X : ZX} {d n : Nat} {P : ZSto → Prop} {x2 : Int} {σ : ZSto} (hn : 104 ≤ n) 
    (h : (x2 ≤ 9 → (0 ≤ x2 ∧ x2 < 2147483648) ∧ ZkV X M_X10_puts d n [.ref (zB X + 73), iV (48 + (x2 % 10))] σ (fun σ7 => ZkV X M_X10_puts d n [.ref (zB X + 73), iV 93] σ7 (fun σ12 => P σ12))) ∧ (¬ (x2 ≤ 9) → (0 ≤ x2 ∧ x2 < 2147483648) ∧ (0 ≤ x2 / 10 ∧ x2 / 10 < 2147483648) ∧ ZkV X M_X10_puts d n [.ref (zB X + 73), iV (48 + ((x2 / 10) % 10))] σ (fun σ22 => ZkV X M_X10_puts d n [.ref (zB X + 73), iV (48 + (x2 % 10))] σ22 (fun σ27 => ZkV X M_X10_puts d n [.ref (zB X + 73), iV 93] σ27 (fun σ32 => P σ32))))) :
    L_X10_putsNumber_44 X d n (zpV P) x2 σ := by
  intro hx2 k0
  unfold Zn
  refine r_iload_n dX10_putsNumber_44 rfl ?_
  refine r_bipush dX10_putsNumber_45 rfl ?_
  refine r_icmp_le (t := 64) dX10_putsNumber_47 rfl hx2 (r32c rfl) (fun c1 => ?_) (fun c2 => ?_)
  · have h3 := h.1 c1
    refine r_aload_n dX10_putsNumber_64 rfl ?_
    refine r_bipush dX10_putsNumber_65 rfl ?_
    refine r_iload_n dX10_putsNumber_67 rfl ?_
    refine r_bipush dX10_putsNumber_68 rfl ?_
    obtain ⟨h4, h5⟩ := h3
    refine r_irem dX10_putsNumber_70 h4.1 h4.2 (by decide) (by decide) ?_
    refine r_iadd dX10_putsNumber_71 ?_
    refine n_callV (N := M_X10_puts) (As := [iV (48 + (x2 % 10))]) (st := []) dX10_putsNumber_72 mk_X10_puts km_RX10_260 kd_X10_puts rfl (zlt hn rfl) sh_73 (q := (RX10, TX10, 52)) rfl rfl (zFits_rm d n n n (Nat.le_refl n)) (Nat.le_of_ble_eq_true rfl) rfl k0 h5 ?_
    rintro _ σ7 k8 ⟨rfl, h10⟩
    change Zm _ _ _ _ _ _ 75 _ [] _
    refine r_aload_n dX10_putsNumber_75 rfl ?_
    refine r_bipush dX10_putsNumber_76 rfl ?_
    refine n_callV (N := M_X10_puts) (As := [iV 93]) (st := []) dX10_putsNumber_78 mk_X10_puts km_RX10_260 kd_X10_puts rfl (zlt hn rfl) sh_73 (q := (RX10, TX10, 52)) rfl rfl (zFits_rm d n n n (Nat.le_refl n)) (Nat.le_of_ble_eq_true rfl) rfl k8 h10 ?_
    rintro _ σ12 k13 ⟨rfl, h15⟩
    change Zm _ _ _ _ _ _ 81 _ [] _
    exact r_return dX10_putsNumber_81 rfl ⟨k13, rfl, h15⟩
  · have h16 := h.2 c2
    refine r_aload_n dX10_putsNumber_50 rfl ?_
    refine r_bipush dX10_putsNumber_51 rfl ?_
    refine r_iload_n dX10_putsNumber_53 rfl ?_
    refine r_bipush dX10_putsNumber_54 rfl ?_
    obtain ⟨h17, h18⟩ := h16
    refine r_idiv dX10_putsNumber_56 h17.1 h17.2 (by decide) (by decide) ?_
    refine r_bipush dX10_putsNumber_57 rfl ?_
    obtain ⟨h19, h20⟩ := h18
    refine r_irem dX10_putsNumber_59 h19.1 h19.2 (by decide) (by decide) ?_
    refine r_iadd dX10_putsNumber_60 ?_
    refine n_callV (N := M_X10_puts) (As := [iV (48 + ((x2 / 10) % 10))]) (st := []) dX10_putsNumber_61 mk_X10_puts km_RX10_260 kd_X10_puts rfl (zlt hn rfl) sh_73 (q := (RX10, TX10, 52)) rfl rfl (zFits_rm d n n n (Nat.le_refl n)) (Nat.le_of_ble_eq_true rfl) rfl k0 h20 ?_
    rintro _ σ22 k23 ⟨rfl, h25⟩
    change Zm _ _ _ _ _ _ 64 _ [] _
    refine r_aload_n dX10_putsNumber_64 rfl ?_
    refine r_bipush dX10_putsNumber_65 rfl ?_
    refine r_iload_n dX10_putsNumber_67 rfl ?_
    refine r_bipush dX10_putsNumber_68 rfl ?_
    refine r_irem dX10_putsNumber_70 h17.1 h17.2 (by decide) (by decide) ?_
    refine r_iadd dX10_putsNumber_71 ?_
    refine n_callV (N := M_X10_puts) (As := [iV (48 + (x2 % 10))]) (st := []) dX10_putsNumber_72 mk_X10_puts km_RX10_260 kd_X10_puts rfl (zlt hn rfl) sh_73 (q := (RX10, TX10, 52)) rfl rfl (zFits_rm d n n n (Nat.le_refl n)) (Nat.le_of_ble_eq_true rfl) rfl k23 h25 ?_
    rintro _ σ27 k28 ⟨rfl, h30⟩
    change Zm _ _ _ _ _ _ 75 _ [] _
    refine r_aload_n dX10_putsNumber_75 rfl ?_
    refine r_bipush dX10_putsNumber_76 rfl ?_
    refine n_callV (N := M_X10_puts) (As := [iV 93]) (st := []) dX10_putsNumber_78 mk_X10_puts km_RX10_260 kd_X10_puts rfl (zlt hn rfl) sh_73 (q := (RX10, TX10, 52)) rfl rfl (zFits_rm d n n n (Nat.le_refl n)) (Nat.le_of_ble_eq_true rfl) rfl k28 h30 ?_
    rintro _ σ32 k33 ⟨rfl, h35⟩
    change Zm _ _ _ _ _ _ 81 _ [] _
    exact r_return dX10_putsNumber_81 rfl ⟨k33, rfl, h35⟩
/-! StoneRoomModel.putsNode -/
theorem dX10_putsNode_0 : decode M_X10_putsNode.2.1 0 = .ok (.aload_n 0, 1) := by decide +kernel
theorem dX10_putsNode_1 : decode M_X10_putsNode.2.1 1 = .ok (.bipush 59, 2) := by decide +kernel
theorem dX10_putsNode_3 : decode M_X10_putsNode.2.1 3 = .ok (.invokevirtual 260, 3) := by decide +kernel
theorem dX10_putsNode_6 : decode M_X10_putsNode.2.1 6 = .ok (.aload_n 0, 1) := by decide +kernel
theorem dX10_putsNode_7 : decode M_X10_putsNode.2.1 7 = .ok (.getfield 7, 3) := by decide +kernel
theorem dX10_putsNode_10 : decode M_X10_putsNode.2.1 10 = .ok (.iload_n 1, 1) := by decide +kernel
theorem dX10_putsNode_11 : decode M_X10_putsNode.2.1 11 = .ok (.iaload, 1) := by decide +kernel
theorem dX10_putsNode_12 : decode M_X10_putsNode.2.1 12 = .ok (.ifCond .ge 65, 3) := by decide +kernel
theorem dX10_putsNode_15 : decode M_X10_putsNode.2.1 15 = .ok (.aload_n 0, 1) := by decide +kernel
theorem dX10_putsNode_16 : decode M_X10_putsNode.2.1 16 = .ok (.bipush 83, 2) := by decide +kernel
theorem dX10_putsNode_18 : decode M_X10_putsNode.2.1 18 = .ok (.invokevirtual 260, 3) := by decide +kernel
theorem dX10_putsNode_21 : decode M_X10_putsNode.2.1 21 = .ok (.aload_n 0, 1) := by decide +kernel
theorem dX10_putsNode_22 : decode M_X10_putsNode.2.1 22 = .ok (.bipush 90, 2) := by decide +kernel
theorem dX10_putsNode_24 : decode M_X10_putsNode.2.1 24 = .ok (.invokevirtual 260, 3) := by decide +kernel
theorem dX10_putsNode_27 : decode M_X10_putsNode.2.1 27 = .ok (.aload_n 0, 1) := by decide +kernel
theorem dX10_putsNode_28 : decode M_X10_putsNode.2.1 28 = .ok (.aload_n 0, 1) := by decide +kernel
theorem dX10_putsNode_29 : decode M_X10_putsNode.2.1 29 = .ok (.getfield 36, 3) := by decide +kernel
theorem dX10_putsNode_32 : decode M_X10_putsNode.2.1 32 = .ok (.aload_n 0, 1) := by decide +kernel
theorem dX10_putsNode_33 : decode M_X10_putsNode.2.1 33 = .ok (.getfield 170, 3) := by decide +kernel
theorem dX10_putsNode_36 : decode M_X10_putsNode.2.1 36 = .ok (.iaload, 1) := by decide +kernel
theorem dX10_putsNode_37 : decode M_X10_putsNode.2.1 37 = .ok (.invokevirtual 263, 3) := by decide +kernel
theorem dX10_putsNode_40 : decode M_X10_putsNode.2.1 40 = .ok (.aload_n 0, 1) := by decide +kernel
theorem dX10_putsNode_41 : decode M_X10_putsNode.2.1 41 = .ok (.getfield 39, 3) := by decide +kernel
theorem dX10_putsNode_44 : decode M_X10_putsNode.2.1 44 = .ok (.aload_n 0, 1) := by decide +kernel
theorem dX10_putsNode_45 : decode M_X10_putsNode.2.1 45 = .ok (.getfield 170, 3) := by decide +kernel
theorem dX10_putsNode_48 : decode M_X10_putsNode.2.1 48 = .ok (.iaload, 1) := by decide +kernel
theorem dX10_putsNode_49 : decode M_X10_putsNode.2.1 49 = .ok (.ifCond .eq 28, 3) := by decide +kernel
theorem dX10_putsNode_52 : decode M_X10_putsNode.2.1 52 = .ok (.aload_n 0, 1) := by decide +kernel
theorem dX10_putsNode_53 : decode M_X10_putsNode.2.1 53 = .ok (.bipush 75, 2) := by decide +kernel
theorem dX10_putsNode_55 : decode M_X10_putsNode.2.1 55 = .ok (.invokevirtual 260, 3) := by decide +kernel
theorem dX10_putsNode_58 : decode M_X10_putsNode.2.1 58 = .ok (.aload_n 0, 1) := by decide +kernel
theorem dX10_putsNode_59 : decode M_X10_putsNode.2.1 59 = .ok (.bipush 77, 2) := by decide +kernel
theorem dX10_putsNode_61 : decode M_X10_putsNode.2.1 61 = .ok (.invokevirtual 260, 3) := by decide +kernel
theorem dX10_putsNode_64 : decode M_X10_putsNode.2.1 64 = .ok (.aload_n 0, 1) := by decide +kernel
theorem dX10_putsNode_65 : decode M_X10_putsNode.2.1 65 = .ok (.aload_n 0, 1) := by decide +kernel
theorem dX10_putsNode_66 : decode M_X10_putsNode.2.1 66 = .ok (.getfield 39, 3) := by decide +kernel
theorem dX10_putsNode_69 : decode M_X10_putsNode.2.1 69 = .ok (.aload_n 0, 1) := by decide +kernel
theorem dX10_putsNode_70 : decode M_X10_putsNode.2.1 70 = .ok (.getfield 170, 3) := by decide +kernel
theorem dX10_putsNode_73 : decode M_X10_putsNode.2.1 73 = .ok (.iaload, 1) := by decide +kernel
theorem dX10_putsNode_74 : decode M_X10_putsNode.2.1 74 = .ok (.invokevirtual 263, 3) := by decide +kernel
theorem dX10_putsNode_77 : decode M_X10_putsNode.2.1 77 = .ok (.aload_n 0, 1) := by decide +kernel
theorem dX10_putsNode_78 : decode M_X10_putsNode.2.1 78 = .ok (.getfield 13, 3) := by decide +kernel
theorem dX10_putsNode_81 : decode M_X10_putsNode.2.1 81 = .ok (.iload_n 1, 1) := by decide +kernel
theorem dX10_putsNode_82 : decode M_X10_putsNode.2.1 82 = .ok (.iaload, 1) := by decide +kernel
theorem dX10_putsNode_83 : decode M_X10_putsNode.2.1 83 = .ok (.ifCond .eq 35, 3) := by decide +kernel
theorem dX10_putsNode_86 : decode M_X10_putsNode.2.1 86 = .ok (.aload_n 0, 1) := by decide +kernel
theorem dX10_putsNode_87 : decode M_X10_putsNode.2.1 87 = .ok (.aload_n 0, 1) := by decide +kernel
theorem dX10_putsNode_88 : decode M_X10_putsNode.2.1 88 = .ok (.getfield 16, 3) := by decide +kernel
theorem dX10_putsNode_91 : decode M_X10_putsNode.2.1 91 = .ok (.iload_n 1, 1) := by decide +kernel
theorem dX10_putsNode_92 : decode M_X10_putsNode.2.1 92 = .ok (.iaload, 1) := by decide +kernel
theorem dX10_putsNode_93 : decode M_X10_putsNode.2.1 93 = .ok (.iconst 1, 1) := by decide +kernel
theorem dX10_putsNode_94 : decode M_X10_putsNode.2.1 94 = .ok (.if_icmp .ne 8, 3) := by decide +kernel
theorem dX10_putsNode_97 : decode M_X10_putsNode.2.1 97 = .ok (.bipush 66, 2) := by decide +kernel
theorem dX10_putsNode_99 : decode M_X10_putsNode.2.1 99 = .ok (.goto 5, 3) := by decide +kernel
theorem dX10_putsNode_102 : decode M_X10_putsNode.2.1 102 = .ok (.bipush 87, 2) := by decide +kernel
theorem dX10_putsNode_104 : decode M_X10_putsNode.2.1 104 = .ok (.invokevirtual 260, 3) := by decide +kernel
theorem dX10_putsNode_107 : decode M_X10_putsNode.2.1 107 = .ok (.aload_n 0, 1) := by decide +kernel
theorem dX10_putsNode_108 : decode M_X10_putsNode.2.1 108 = .ok (.aload_n 0, 1) := by decide +kernel
theorem dX10_putsNode_109 : decode M_X10_putsNode.2.1 109 = .ok (.getfield 19, 3) := by decide +kernel
theorem dX10_putsNode_112 : decode M_X10_putsNode.2.1 112 = .ok (.iload_n 1, 1) := by decide +kernel
theorem dX10_putsNode_113 : decode M_X10_putsNode.2.1 113 = .ok (.iaload, 1) := by decide +kernel
theorem dX10_putsNode_114 : decode M_X10_putsNode.2.1 114 = .ok (.invokevirtual 266, 3) := by decide +kernel
theorem dX10_putsNode_117 : decode M_X10_putsNode.2.1 117 = .ok (.return_, 1) := by decide +kernel
theorem dX10_putsNode_118 : decode M_X10_putsNode.2.1 118 = .ok (.iconst 1, 1) := by decide +kernel
theorem dX10_putsNode_119 : decode M_X10_putsNode.2.1 119 = .ok (.istore_n 2, 1) := by decide +kernel
theorem dX10_putsNode_120 : decode M_X10_putsNode.2.1 120 = .ok (.iload_n 2, 1) := by decide +kernel
theorem dX10_putsNode_121 : decode M_X10_putsNode.2.1 121 = .ok (.iconst 3, 1) := by decide +kernel
theorem dX10_putsNode_122 : decode M_X10_putsNode.2.1 122 = .ok (.if_icmp .gt 99, 3) := by decide +kernel
theorem dX10_putsNode_125 : decode M_X10_putsNode.2.1 125 = .ok (.iconst 0, 1) := by decide +kernel
theorem dX10_putsNode_126 : decode M_X10_putsNode.2.1 126 = .ok (.istore_n 3, 1) := by decide +kernel
theorem dX10_putsNode_127 : decode M_X10_putsNode.2.1 127 = .ok (.iconst 0, 1) := by decide +kernel
theorem dX10_putsNode_128 : decode M_X10_putsNode.2.1 128 = .ok (.istore 4, 2) := by decide +kernel
theorem dX10_putsNode_130 : decode M_X10_putsNode.2.1 130 = .ok (.iload 4, 2) := by decide +kernel
theorem dX10_putsNode_132 : decode M_X10_putsNode.2.1 132 = .ok (.aload_n 0, 1) := by decide +kernel
theorem dX10_putsNode_133 : decode M_X10_putsNode.2.1 133 = .ok (.getfield 139, 3) := by decide +kernel
theorem dX10_putsNode_136 : decode M_X10_putsNode.2.1 136 = .ok (.aload_n 0, 1) := by decide +kernel
theorem dX10_putsNode_137 : decode M_X10_putsNode.2.1 137 = .ok (.getfield 139, 3) := by decide +kernel
theorem dX10_putsNode_140 : decode M_X10_putsNode.2.1 140 = .ok (.imul, 1) := by decide +kernel
theorem dX10_putsNode_141 : decode M_X10_putsNode.2.1 141 = .ok (.if_icmp .ge 74, 3) := by decide +kernel
theorem dX10_putsNode_144 : decode M_X10_putsNode.2.1 144 = .ok (.aload_n 0, 1) := by decide +kernel
theorem dX10_putsNode_145 : decode M_X10_putsNode.2.1 145 = .ok (.getfield 30, 3) := by decide +kernel
theorem dX10_putsNode_148 : decode M_X10_putsNode.2.1 148 = .ok (.bipush 81, 2) := by decide +kernel
theorem dX10_putsNode_150 : decode M_X10_putsNode.2.1 150 = .ok (.iload_n 1, 1) := by decide +kernel
theorem dX10_putsNode_151 : decode M_X10_putsNode.2.1 151 = .ok (.imul, 1) := by decide +kernel
theorem dX10_putsNode_152 : decode M_X10_putsNode.2.1 152 = .ok (.iload 4, 2) := by decide +kernel
theorem dX10_putsNode_154 : decode M_X10_putsNode.2.1 154 = .ok (.iadd, 1) := by decide +kernel
theorem dX10_putsNode_155 : decode M_X10_putsNode.2.1 155 = .ok (.baload, 1) := by decide +kernel
theorem dX10_putsNode_156 : decode M_X10_putsNode.2.1 156 = .ok (.iload_n 2, 1) := by decide +kernel
theorem dX10_putsNode_157 : decode M_X10_putsNode.2.1 157 = .ok (.iconst 3, 1) := by decide +kernel
theorem dX10_putsNode_158 : decode M_X10_putsNode.2.1 158 = .ok (.irem, 1) := by decide +kernel
theorem dX10_putsNode_159 : decode M_X10_putsNode.2.1 159 = .ok (.if_icmp .eq 6, 3) := by decide +kernel
theorem dX10_putsNode_162 : decode M_X10_putsNode.2.1 162 = .ok (.goto 47, 3) := by decide +kernel
theorem dX10_putsNode_165 : decode M_X10_putsNode.2.1 165 = .ok (.iload_n 3, 1) := by decide +kernel
theorem dX10_putsNode_166 : decode M_X10_putsNode.2.1 166 = .ok (.ifCond .ne 35, 3) := by decide +kernel
theorem dX10_putsNode_169 : decode M_X10_putsNode.2.1 169 = .ok (.aload_n 0, 1) := by decide +kernel
theorem dX10_putsNode_170 : decode M_X10_putsNode.2.1 170 = .ok (.bipush 65, 2) := by decide +kernel
theorem dX10_putsNode_172 : decode M_X10_putsNode.2.1 172 = .ok (.invokevirtual 260, 3) := by decide +kernel
theorem dX10_putsNode_175 : decode M_X10_putsNode.2.1 175 = .ok (.aload_n 0, 1) := by decide +kernel
theorem dX10_putsNode_176 : decode M_X10_putsNode.2.1 176 = .ok (.iload_n 2, 1) := by decide +kernel
theorem dX10_putsNode_177 : decode M_X10_putsNode.2.1 177 = .ok (.iconst 1, 1) := by decide +kernel
theorem dX10_putsNode_178 : decode M_X10_putsNode.2.1 178 = .ok (.if_icmp .ne 8, 3) := by decide +kernel
theorem dX10_putsNode_181 : decode M_X10_putsNode.2.1 181 = .ok (.bipush 66, 2) := by decide +kernel
theorem dX10_putsNode_183 : decode M_X10_putsNode.2.1 183 = .ok (.goto 15, 3) := by decide +kernel
theorem dX10_putsNode_186 : decode M_X10_putsNode.2.1 186 = .ok (.iload_n 2, 1) := by decide +kernel
theorem dX10_putsNode_187 : decode M_X10_putsNode.2.1 187 = .ok (.iconst 2, 1) := by decide +kernel
theorem dX10_putsNode_188 : decode M_X10_putsNode.2.1 188 = .ok (.if_icmp .ne 8, 3) := by decide +kernel
theorem dX10_putsNode_191 : decode M_X10_putsNode.2.1 191 = .ok (.bipush 87, 2) := by decide +kernel
theorem dX10_putsNode_193 : decode M_X10_putsNode.2.1 193 = .ok (.goto 5, 3) := by decide +kernel
theorem dX10_putsNode_196 : decode M_X10_putsNode.2.1 196 = .ok (.bipush 69, 2) := by decide +kernel
theorem dX10_putsNode_198 : decode M_X10_putsNode.2.1 198 = .ok (.invokevirtual 260, 3) := by decide +kernel
theorem dX10_putsNode_201 : decode M_X10_putsNode.2.1 201 = .ok (.iconst 1, 1) := by decide +kernel
theorem dX10_putsNode_202 : decode M_X10_putsNode.2.1 202 = .ok (.istore_n 3, 1) := by decide +kernel
theorem dX10_putsNode_203 : decode M_X10_putsNode.2.1 203 = .ok (.aload_n 0, 1) := by decide +kernel
theorem dX10_putsNode_204 : decode M_X10_putsNode.2.1 204 = .ok (.iload 4, 2) := by decide +kernel
theorem dX10_putsNode_206 : decode M_X10_putsNode.2.1 206 = .ok (.invokevirtual 266, 3) := by decide +kernel
theorem dX10_putsNode_209 : decode M_X10_putsNode.2.1 209 = .ok (.iinc 4 1, 3) := by decide +kernel
theorem dX10_putsNode_212 : decode M_X10_putsNode.2.1 212 = .ok (.goto (-82), 3) := by decide +kernel
theorem dX10_putsNode_215 : decode M_X10_putsNode.2.1 215 = .ok (.iinc 2 1, 3) := by decide +kernel
theorem dX10_putsNode_218 : decode M_X10_putsNode.2.1 218 = .ok (.goto (-98), 3) := by decide +kernel
theorem dX10_putsNode_221 : decode M_X10_putsNode.2.1 221 = .ok (.return_, 1) := by decide +kernel
def L_X10_putsNode_77 (X : ZX) (d n : Nat) (P : Option Value → ZSto → Prop) (x1 : Int) (σ : ZSto) : Prop := R32 x1 → ZOk n σ → Zn X M_X10_putsNode d n P 77 [some (.ref (zB X + 73)), some (iV x1), none, none, none] [] σ
def L_X10_putsNode_120 (X : ZX) (d n : Nat) (P : Option Value → ZSto → Prop) (x1 : Int) (x2 : Int) (σ : ZSto) : Prop := R32 x1 → R32 x2 → ZOk n σ → Zn X M_X10_putsNode d n P 120 [some (.ref (zB X + 73)), some (iV x1), some (iV x2), none, none] [] σ
def L_X10_putsNode_130 (X : ZX) (d n : Nat) (P : Option Value → ZSto → Prop) (x1 : Int) (x2 : Int) (x3 : Int) (x4 : Int) (σ : ZSto) : Prop := R32 x1 → R32 x2 → R32 x3 → R32 x4 → ZOk n σ → Zn X M_X10_putsNode d n P 130 [some (.ref (zB X + 73)), some (iV x1), some (iV x2), some (iV x3), some (iV x4)] [] σ
theorem w_X10_putsNode {X : ZX} {d n : Nat} {P : ZSto → Prop} {x1 : Int} {σ : ZSto} (hn : 104 ≤ n)  (hx1 : R32 x1)
    (h : ZkV X M_X10_puts d n [.ref (zB X + 73), iV 59] σ (fun σ2 => (0 ≤ x1 ∧ x1 < 500) ∧ (0 ≤ gI σ2 74 x1.toNat → L_X10_putsNode_77 X d n (zpV P) x1 σ2) ∧ (¬ (0 ≤ gI σ2 74 x1.toNat) → ZkV X M_X10_puts d n [.ref (zB X + 73), iV 83] σ2 (fun σ13 => ZkV X M_X10_puts d n [.ref (zB X + 73), iV 90] σ13 (fun σ18 => (0 ≤ gI σ18 73 10 ∧ gI σ18 73 10 < 2) ∧ ZkV X M_X10_putsNumber d n [.ref (zB X + 73), iV (gI σ18 82 ((gI σ18 73 10).toNat))] σ18 (fun σ25 => (0 ≤ gI σ25 73 10 ∧ gI σ25 73 10 < 2) ∧ (gI σ25 83 ((gI σ25 73 10).toNat) = 0 → L_X10_putsNode_77 X d n (zpV P) x1 σ25) ∧ (¬ (gI σ25 83 ((gI σ25 73 10).toNat) = 0) → ZkV X M_X10_puts d n [.ref (zB X + 73), iV 75] σ25 (fun σ36 => ZkV X M_X10_puts d n [.ref (zB X + 73), iV 77] σ36 (fun σ41 => (0 ≤ gI σ41 73 10 ∧ gI σ41 73 10 < 2) ∧ ZkV X M_X10_putsNumber d n [.ref (zB X + 73), iV (gI σ41 83 ((gI σ41 73 10).toNat))] σ41 (fun σ48 => L_X10_putsNode_77 X d n (zpV P) x1 σ48)))))))))) :
    ZkV X M_X10_putsNode (d + 1) n [.ref (zB X + 73), iV x1] σ P := by
  refine zk_of (ls := [some (.ref (zB X + 73)), some (iV x1), none, none, none]) pl_RX10 (Nat.le_of_ble_eq_true rfl) rfl (fun k0 => ?_)
  unfold Zn
  refine r_aload_n dX10_putsNode_0 rfl ?_
  refine r_bipush dX10_putsNode_1 rfl ?_
  refine n_callV (N := M_X10_puts) (As := [iV 59]) (st := []) dX10_putsNode_3 mk_X10_puts km_RX10_260 kd_X10_puts rfl (zlt hn rfl) sh_73 (q := (RX10, TX10, 52)) rfl rfl (zFits_rm d n n n (Nat.le_refl n)) (Nat.le_of_ble_eq_true rfl) rfl k0 h ?_
  rintro _ σ2 k3 ⟨rfl, h5⟩
  change Zm _ _ _ _ _ _ 6 _ [] _
  refine r_aload_n dX10_putsNode_6 rfl ?_
  refine r_getP (a := 74) dX10_putsNode_7 kf_RX10_7 (zlt hn rfl) sh_73 rfl (k3.1 _ _ _ (zlt hn rfl) p_73_0) ?_
  refine r_iload_n dX10_putsNode_10 rfl ?_
  obtain ⟨h6, h7⟩ := h5
  refine r_ialoadE dX10_putsNode_11 (zlt hn rfl) sh_74 h6.1 h6.2 rfl ?_
  refine r_if_ge (t := 77) dX10_putsNode_12 rfl (k3.2.1 _ _)  (fun c8 => ?_) (fun c9 => ?_)
  · have h10 := h7.1 c8
    exact r_mask [true, true, false, false, false] rfl (h10 hx1 k3)
  · have h11 := h7.2 c9
    refine r_aload_n dX10_putsNode_15 rfl ?_
    refine r_bipush dX10_putsNode_16 rfl ?_
    refine n_callV (N := M_X10_puts) (As := [iV 83]) (st := []) dX10_putsNode_18 mk_X10_puts km_RX10_260 kd_X10_puts rfl (zlt hn rfl) sh_73 (q := (RX10, TX10, 52)) rfl rfl (zFits_rm d n n n (Nat.le_refl n)) (Nat.le_of_ble_eq_true rfl) rfl k3 h11 ?_
    rintro _ σ13 k14 ⟨rfl, h16⟩
    change Zm _ _ _ _ _ _ 21 _ [] _
    refine r_aload_n dX10_putsNode_21 rfl ?_
    refine r_bipush dX10_putsNode_22 rfl ?_
    refine n_callV (N := M_X10_puts) (As := [iV 90]) (st := []) dX10_putsNode_24 mk_X10_puts km_RX10_260 kd_X10_puts rfl (zlt hn rfl) sh_73 (q := (RX10, TX10, 52)) rfl rfl (zFits_rm d n n n (Nat.le_refl n)) (Nat.le_of_ble_eq_true rfl) rfl k14 h16 ?_
    rintro _ σ18 k19 ⟨rfl, h21⟩
    change Zm _ _ _ _ _ _ 27 _ [] _
    refine r_aload_n dX10_putsNode_27 rfl ?_
    refine r_aload_n dX10_putsNode_28 rfl ?_
    refine r_getP (a := 82) dX10_putsNode_29 kf_RX10_36 (zlt hn rfl) sh_73 rfl (k19.1 _ _ _ (zlt hn rfl) p_73_8) ?_
    refine r_aload_n dX10_putsNode_32 rfl ?_
    refine r_getI dX10_putsNode_33 kf_RX10_170 (zlt hn rfl) sh_73 (Or.inl rfl) rfl ?_
    obtain ⟨h22, h23⟩ := h21
    refine r_ialoadE dX10_putsNode_36 (zlt hn rfl) sh_82 h22.1 h22.2 rfl ?_
    refine n_callV (N := M_X10_putsNumber) (As := [iV (gI σ18 82 ((gI σ18 73 10).toNat))]) (st := []) dX10_putsNode_37 mk_X10_putsNumber km_RX10_263 kd_X10_putsNumber rfl (zlt hn rfl) sh_73 (q := (RX10, TX10, 52)) rfl rfl (zFits_rm d n n n (Nat.le_refl n)) (Nat.le_of_ble_eq_true rfl) rfl k19 h23 ?_
    rintro _ σ25 k26 ⟨rfl, h28⟩
    change Zm _ _ _ _ _ _ 40 _ [] _
    refine r_aload_n dX10_putsNode_40 rfl ?_
    refine r_getP (a := 83) dX10_putsNode_41 kf_RX10_39 (zlt hn rfl) sh_73 rfl (k26.1 _ _ _ (zlt hn rfl) p_73_9) ?_
    refine r_aload_n dX10_putsNode_44 rfl ?_
    refine r_getI dX10_putsNode_45 kf_RX10_170 (zlt hn rfl) sh_73 (Or.inl rfl) rfl ?_
    obtain ⟨h29, h30⟩ := h28
    refine r_ialoadE dX10_putsNode_48 (zlt hn rfl) sh_83 h29.1 h29.2 rfl ?_
    refine r_if_eq (t := 77) dX10_putsNode_49 rfl (k26.2.1 _ _)  (fun c31 => ?_) (fun c32 => ?_)
    · have h33 := h30.1 c31
      exact r_mask [true, true, false, false, false] rfl (h33 hx1 k26)
    · have h34 := h30.2 c32
      refine r_aload_n dX10_putsNode_52 rfl ?_
      refine r_bipush dX10_putsNode_53 rfl ?_
      refine n_callV (N := M_X10_puts) (As := [iV 75]) (st := []) dX10_putsNode_55 mk_X10_puts km_RX10_260 kd_X10_puts rfl (zlt hn rfl) sh_73 (q := (RX10, TX10, 52)) rfl rfl (zFits_rm d n n n (Nat.le_refl n)) (Nat.le_of_ble_eq_true rfl) rfl k26 h34 ?_
      rintro _ σ36 k37 ⟨rfl, h39⟩
      change Zm _ _ _ _ _ _ 58 _ [] _
      refine r_aload_n dX10_putsNode_58 rfl ?_
      refine r_bipush dX10_putsNode_59 rfl ?_
      refine n_callV (N := M_X10_puts) (As := [iV 77]) (st := []) dX10_putsNode_61 mk_X10_puts km_RX10_260 kd_X10_puts rfl (zlt hn rfl) sh_73 (q := (RX10, TX10, 52)) rfl rfl (zFits_rm d n n n (Nat.le_refl n)) (Nat.le_of_ble_eq_true rfl) rfl k37 h39 ?_
      rintro _ σ41 k42 ⟨rfl, h44⟩
      change Zm _ _ _ _ _ _ 64 _ [] _
      refine r_aload_n dX10_putsNode_64 rfl ?_
      refine r_aload_n dX10_putsNode_65 rfl ?_
      refine r_getP (a := 83) dX10_putsNode_66 kf_RX10_39 (zlt hn rfl) sh_73 rfl (k42.1 _ _ _ (zlt hn rfl) p_73_9) ?_
      refine r_aload_n dX10_putsNode_69 rfl ?_
      refine r_getI dX10_putsNode_70 kf_RX10_170 (zlt hn rfl) sh_73 (Or.inl rfl) rfl ?_
      obtain ⟨h45, h46⟩ := h44
      refine r_ialoadE dX10_putsNode_73 (zlt hn rfl) sh_83 h45.1 h45.2 rfl ?_
      refine n_callV (N := M_X10_putsNumber) (As := [iV (gI σ41 83 ((gI σ41 73 10).toNat))]) (st := []) dX10_putsNode_74 mk_X10_putsNumber km_RX10_263 kd_X10_putsNumber rfl (zlt hn rfl) sh_73 (q := (RX10, TX10, 52)) rfl rfl (zFits_rm d n n n (Nat.le_refl n)) (Nat.le_of_ble_eq_true rfl) rfl k42 h46 ?_
      rintro _ σ48 k49 ⟨rfl, h51⟩
      change Zm _ _ _ _ _ _ 77 _ [] _
      exact r_mask [true, true, false, false, false] rfl (h51 hx1 k49)
theorem b_X10_putsNode_77 {X : ZX} {d n : Nat} {P : ZSto → Prop} {x1 : Int} {σ : ZSto} (hn : 104 ≤ n) 
    (h : (0 ≤ x1 ∧ x1 < 500) ∧ (gI σ 75 x1.toNat = 0 → L_X10_putsNode_120 X d n (zpV P) x1 1 σ) ∧ (¬ (gI σ 75 x1.toNat = 0) → (¬ gI σ 76 x1.toNat = 1 → ZkV X M_X10_puts d n [.ref (zB X + 73), iV 87] σ (fun σ11 => ZkV X M_X10_putsPoint d n [.ref (zB X + 73), iV (gI σ11 77 x1.toNat)] σ11 (fun σ16 => P σ16))) ∧ (gI σ 76 x1.toNat = 1 → ZkV X M_X10_puts d n [.ref (zB X + 73), iV 66] σ (fun σ22 => ZkV X M_X10_putsPoint d n [.ref (zB X + 73), iV (gI σ22 77 x1.toNat)] σ22 (fun σ27 => P σ27))))) :
    L_X10_putsNode_77 X d n (zpV P) x1 σ := by
  intro hx1 k0
  unfold Zn
  refine r_aload_n dX10_putsNode_77 rfl ?_
  refine r_getP (a := 75) dX10_putsNode_78 kf_RX10_13 (zlt hn rfl) sh_73 rfl (k0.1 _ _ _ (zlt hn rfl) p_73_1) ?_
  refine r_iload_n dX10_putsNode_81 rfl ?_
  obtain ⟨h1, h2⟩ := h
  refine r_ialoadE dX10_putsNode_82 (zlt hn rfl) sh_75 h1.1 h1.2 rfl ?_
  refine r_if_eq (t := 118) dX10_putsNode_83 rfl (k0.2.1 _ _)  (fun c3 => ?_) (fun c4 => ?_)
  · have h5 := h2.1 c3
    refine r_iconst dX10_putsNode_118 ?_
    refine r_istore_n dX10_putsNode_119 rfl rfl ?_
    exact r_mask [true, true, true, false, false] rfl (h5 hx1 (r32c rfl) k0)
  · have h6 := h2.2 c4
    refine r_aload_n dX10_putsNode_86 rfl ?_
    refine r_aload_n dX10_putsNode_87 rfl ?_
    refine r_getP (a := 76) dX10_putsNode_88 kf_RX10_16 (zlt hn rfl) sh_73 rfl (k0.1 _ _ _ (zlt hn rfl) p_73_2) ?_
    refine r_iload_n dX10_putsNode_91 rfl ?_
    refine r_ialoadE dX10_putsNode_92 (zlt hn rfl) sh_76 h1.1 h1.2 rfl ?_
    refine r_iconst dX10_putsNode_93 ?_
    refine r_icmp_ne (t := 102) dX10_putsNode_94 rfl (k0.2.1 _ _) (r32c rfl) (fun c7 => ?_) (fun c8 => ?_)
    · have h9 := h6.1 c7
      refine r_bipush dX10_putsNode_102 rfl ?_
      refine n_callV (N := M_X10_puts) (As := [iV 87]) (st := []) dX10_putsNode_104 mk_X10_puts km_RX10_260 kd_X10_puts rfl (zlt hn rfl) sh_73 (q := (RX10, TX10, 52)) rfl rfl (zFits_rm d n n n (Nat.le_refl n)) (Nat.le_of_ble_eq_true rfl) rfl k0 h9 ?_
      rintro _ σ11 k12 ⟨rfl, h14⟩
      change Zm _ _ _ _ _ _ 107 _ [] _
      refine r_aload_n dX10_putsNode_107 rfl ?_
      refine r_aload_n dX10_putsNode_108 rfl ?_
      refine r_getP (a := 77) dX10_putsNode_109 kf_RX10_19 (zlt hn rfl) sh_73 rfl (k12.1 _ _ _ (zlt hn rfl) p_73_3) ?_
      refine r_iload_n dX10_putsNode_112 rfl ?_
      refine r_ialoadE dX10_putsNode_113 (zlt hn rfl) sh_77 h1.1 h1.2 rfl ?_
      refine n_callV (N := M_X10_putsPoint) (As := [iV (gI σ11 77 x1.toNat)]) (st := []) dX10_putsNode_114 mk_X10_putsPoint km_RX10_266 kd_X10_putsPoint rfl (zlt hn rfl) sh_73 (q := (RX10, TX10, 52)) rfl rfl (zFits_rm d n n n (Nat.le_refl n)) (Nat.le_of_ble_eq_true rfl) rfl k12 h14 ?_
      rintro _ σ16 k17 ⟨rfl, h19⟩
      change Zm _ _ _ _ _ _ 117 _ [] _
      exact r_return dX10_putsNode_117 rfl ⟨k17, rfl, h19⟩
    · have h20 := h6.2 c8
      refine r_bipush dX10_putsNode_97 rfl ?_
      refine r_goto (t := 104) dX10_putsNode_99 rfl ?_
      refine n_callV (N := M_X10_puts) (As := [iV 66]) (st := []) dX10_putsNode_104 mk_X10_puts km_RX10_260 kd_X10_puts rfl (zlt hn rfl) sh_73 (q := (RX10, TX10, 52)) rfl rfl (zFits_rm d n n n (Nat.le_refl n)) (Nat.le_of_ble_eq_true rfl) rfl k0 h20 ?_
      rintro _ σ22 k23 ⟨rfl, h25⟩
      change Zm _ _ _ _ _ _ 107 _ [] _
      refine r_aload_n dX10_putsNode_107 rfl ?_
      refine r_aload_n dX10_putsNode_108 rfl ?_
      refine r_getP (a := 77) dX10_putsNode_109 kf_RX10_19 (zlt hn rfl) sh_73 rfl (k23.1 _ _ _ (zlt hn rfl) p_73_3) ?_
      refine r_iload_n dX10_putsNode_112 rfl ?_
      refine r_ialoadE dX10_putsNode_113 (zlt hn rfl) sh_77 h1.1 h1.2 rfl ?_
      refine n_callV (N := M_X10_putsPoint) (As := [iV (gI σ22 77 x1.toNat)]) (st := []) dX10_putsNode_114 mk_X10_putsPoint km_RX10_266 kd_X10_putsPoint rfl (zlt hn rfl) sh_73 (q := (RX10, TX10, 52)) rfl rfl (zFits_rm d n n n (Nat.le_refl n)) (Nat.le_of_ble_eq_true rfl) rfl k23 h25 ?_
      rintro _ σ27 k28 ⟨rfl, h30⟩
      change Zm _ _ _ _ _ _ 117 _ [] _
      exact r_return dX10_putsNode_117 rfl ⟨k28, rfl, h30⟩
theorem b_X10_putsNode_120 {X : ZX} {d n : Nat} {P : ZSto → Prop} {x1 : Int} {x2 : Int} {σ : ZSto} (hn : 104 ≤ n) 
    (h : (3 < x2 → P σ) ∧ (¬ (3 < x2) → L_X10_putsNode_130 X d n (zpV P) x1 x2 0 0 σ)) :
    L_X10_putsNode_120 X d n (zpV P) x1 x2 σ := by
  intro hx1 hx2 k0
  unfold Zn
  refine r_iload_n dX10_putsNode_120 rfl ?_
  refine r_iconst dX10_putsNode_121 ?_
  refine r_icmp_gt (t := 221) dX10_putsNode_122 rfl hx2 (r32c rfl) (fun c1 => ?_) (fun c2 => ?_)
  · have h3 := h.1 c1
    exact r_return dX10_putsNode_221 rfl ⟨k0, rfl, h3⟩
  · have h4 := h.2 c2
    refine r_iconst dX10_putsNode_125 ?_
    refine r_istore_n dX10_putsNode_126 rfl rfl ?_
    refine r_iconst dX10_putsNode_127 ?_
    refine r_istore dX10_putsNode_128 rfl rfl ?_
    exact r_mask [true, true, true, true, true] rfl (h4 hx1 hx2 (r32c rfl) (r32c rfl) k0)
theorem b_X10_putsNode_130 {X : ZX} {d n : Nat} {P : ZSto → Prop} {x1 : Int} {x2 : Int} {x3 : Int} {x4 : Int} {σ : ZSto} (hn : 104 ≤ n) 
    (h : R32 ((gI σ 73 13) * (gI σ 73 13)) ∧ ((gI σ 73 13) * (gI σ 73 13) ≤ x4 → R32 (x2 + 1) ∧ L_X10_putsNode_120 X d n (zpV P) x1 (x2 + 1) σ) ∧ (¬ ((gI σ 73 13) * (gI σ 73 13) ≤ x4) → (0 ≤ (81 * x1) + x4 ∧ (81 * x1) + x4 < 40500) ∧ (0 ≤ x2 ∧ x2 < 2147483648) ∧ R32 (x2 % 3) ∧ (gI σ 80 (((81 * x1) + x4).toNat) = x2 % 3 → (¬ x3 = 0 → ZkV X M_X10_putsPoint d n [.ref (zB X + 73), iV x4] σ (fun σ22 => R32 (x4 + 1) ∧ L_X10_putsNode_130 X d n (zpV P) x1 x2 1 (x4 + 1) σ22)) ∧ (x3 = 0 → ZkV X M_X10_puts d n [.ref (zB X + 73), iV 65] σ (fun σ30 => (¬ x2 = 1 → (¬ x2 = 2 → ZkV X M_X10_puts d n [.ref (zB X + 73), iV 69] σ30 (fun σ41 => ZkV X M_X10_putsPoint d n [.ref (zB X + 73), iV x4] σ41 (fun σ46 => R32 (x4 + 1) ∧ L_X10_putsNode_130 X d n (zpV P) x1 x2 1 (x4 + 1) σ46))) ∧ (x2 = 2 → ZkV X M_X10_puts d n [.ref (zB X + 73), iV 87] σ30 (fun σ54 => ZkV X M_X10_putsPoint d n [.ref (zB X + 73), iV x4] σ54 (fun σ59 => R32 (x4 + 1) ∧ L_X10_putsNode_130 X d n (zpV P) x1 x2 1 (x4 + 1) σ59)))) ∧ (x2 = 1 → ZkV X M_X10_puts d n [.ref (zB X + 73), iV 66] σ30 (fun σ67 => ZkV X M_X10_putsPoint d n [.ref (zB X + 73), iV x4] σ67 (fun σ72 => R32 (x4 + 1) ∧ L_X10_putsNode_130 X d n (zpV P) x1 x2 1 (x4 + 1) σ72)))))) ∧ (¬ (gI σ 80 (((81 * x1) + x4).toNat) = x2 % 3) → R32 (x4 + 1) ∧ L_X10_putsNode_130 X d n (zpV P) x1 x2 x3 (x4 + 1) σ))) :
    L_X10_putsNode_130 X d n (zpV P) x1 x2 x3 x4 σ := by
  intro hx1 hx2 hx3 hx4 k0
  unfold Zn
  refine r_iload dX10_putsNode_130 rfl ?_
  refine r_aload_n dX10_putsNode_132 rfl ?_
  refine r_getI dX10_putsNode_133 kf_RX10_139 (zlt hn rfl) sh_73 (Or.inl rfl) rfl ?_
  refine r_aload_n dX10_putsNode_136 rfl ?_
  refine r_getI dX10_putsNode_137 kf_RX10_139 (zlt hn rfl) sh_73 (Or.inl rfl) rfl ?_
  refine r_imul dX10_putsNode_140 ?_
  obtain ⟨h1, h2⟩ := h
  refine r_icmp_ge (t := 215) dX10_putsNode_141 rfl hx4 h1 (fun c3 => ?_) (fun c4 => ?_)
  · have h5 := h2.1 c3
    refine r_iinc dX10_putsNode_215 rfl rfl rfl ?_
    refine r_goto (t := 120) dX10_putsNode_218 rfl ?_
    obtain ⟨h6, h7⟩ := h5
    exact r_mask [true, true, true, false, false] rfl (h7 hx1 h6 k0)
  · have h8 := h2.2 c4
    refine r_aload_n dX10_putsNode_144 rfl ?_
    refine r_getP (a := 80) dX10_putsNode_145 kf_RX10_30 (zlt hn rfl) sh_73 rfl (k0.1 _ _ _ (zlt hn rfl) p_73_6) ?_
    refine r_bipush dX10_putsNode_148 rfl ?_
    refine r_iload_n dX10_putsNode_150 rfl ?_
    refine r_imul dX10_putsNode_151 ?_
    refine r_iload dX10_putsNode_152 rfl ?_
    refine r_iadd dX10_putsNode_154 ?_
    obtain ⟨h9, h10⟩ := h8
    refine r_baloadE dX10_putsNode_155 (zlt hn rfl) sh_80 h9.1 h9.2 rfl ?_
    refine r_iload_n dX10_putsNode_156 rfl ?_
    refine r_iconst dX10_putsNode_157 ?_
    obtain ⟨h11, h12⟩ := h10
    refine r_irem dX10_putsNode_158 h11.1 h11.2 (by decide) (by decide) ?_
    obtain ⟨h13, h14⟩ := h12
    refine r_icmp_eq (t := 165) dX10_putsNode_159 rfl (k0.2.1 _ _) h13 (fun c15 => ?_) (fun c16 => ?_)
    · have h17 := h14.1 c15
      refine r_iload_n dX10_putsNode_165 rfl ?_
      refine r_if_ne (t := 201) dX10_putsNode_166 rfl hx3  (fun c18 => ?_) (fun c19 => ?_)
      · have h20 := h17.1 c18
        refine r_iconst dX10_putsNode_201 ?_
        refine r_istore_n dX10_putsNode_202 rfl rfl ?_
        refine r_aload_n dX10_putsNode_203 rfl ?_
        refine r_iload dX10_putsNode_204 rfl ?_
        refine n_callV (N := M_X10_putsPoint) (As := [iV x4]) (st := []) dX10_putsNode_206 mk_X10_putsPoint km_RX10_266 kd_X10_putsPoint rfl (zlt hn rfl) sh_73 (q := (RX10, TX10, 52)) rfl rfl (zFits_rm d n n n (Nat.le_refl n)) (Nat.le_of_ble_eq_true rfl) rfl k0 h20 ?_
        rintro _ σ22 k23 ⟨rfl, h25⟩
        change Zm _ _ _ _ _ _ 209 _ [] _
        refine r_iinc dX10_putsNode_209 rfl rfl rfl ?_
        refine r_goto (t := 130) dX10_putsNode_212 rfl ?_
        obtain ⟨h26, h27⟩ := h25
        exact r_mask [true, true, true, true, true] rfl (h27 hx1 hx2 (r32c rfl) h26 k23)
      · have h28 := h17.2 c19
        refine r_aload_n dX10_putsNode_169 rfl ?_
        refine r_bipush dX10_putsNode_170 rfl ?_
        refine n_callV (N := M_X10_puts) (As := [iV 65]) (st := []) dX10_putsNode_172 mk_X10_puts km_RX10_260 kd_X10_puts rfl (zlt hn rfl) sh_73 (q := (RX10, TX10, 52)) rfl rfl (zFits_rm d n n n (Nat.le_refl n)) (Nat.le_of_ble_eq_true rfl) rfl k0 h28 ?_
        rintro _ σ30 k31 ⟨rfl, h33⟩
        change Zm _ _ _ _ _ _ 175 _ [] _
        refine r_aload_n dX10_putsNode_175 rfl ?_
        refine r_iload_n dX10_putsNode_176 rfl ?_
        refine r_iconst dX10_putsNode_177 ?_
        refine r_icmp_ne (t := 186) dX10_putsNode_178 rfl hx2 (r32c rfl) (fun c34 => ?_) (fun c35 => ?_)
        · have h36 := h33.1 c34
          refine r_iload_n dX10_putsNode_186 rfl ?_
          refine r_iconst dX10_putsNode_187 ?_
          refine r_icmp_ne (t := 196) dX10_putsNode_188 rfl hx2 (r32c rfl) (fun c37 => ?_) (fun c38 => ?_)
          · have h39 := h36.1 c37
            refine r_bipush dX10_putsNode_196 rfl ?_
            refine n_callV (N := M_X10_puts) (As := [iV 69]) (st := []) dX10_putsNode_198 mk_X10_puts km_RX10_260 kd_X10_puts rfl (zlt hn rfl) sh_73 (q := (RX10, TX10, 52)) rfl rfl (zFits_rm d n n n (Nat.le_refl n)) (Nat.le_of_ble_eq_true rfl) rfl k31 h39 ?_
            rintro _ σ41 k42 ⟨rfl, h44⟩
            change Zm _ _ _ _ _ _ 201 _ [] _
            refine r_iconst dX10_putsNode_201 ?_
            refine r_istore_n dX10_putsNode_202 rfl rfl ?_
            refine r_aload_n dX10_putsNode_203 rfl ?_
            refine r_iload dX10_putsNode_204 rfl ?_
            refine n_callV (N := M_X10_putsPoint) (As := [iV x4]) (st := []) dX10_putsNode_206 mk_X10_putsPoint km_RX10_266 kd_X10_putsPoint rfl (zlt hn rfl) sh_73 (q := (RX10, TX10, 52)) rfl rfl (zFits_rm d n n n (Nat.le_refl n)) (Nat.le_of_ble_eq_true rfl) rfl k42 h44 ?_
            rintro _ σ46 k47 ⟨rfl, h49⟩
            change Zm _ _ _ _ _ _ 209 _ [] _
            refine r_iinc dX10_putsNode_209 rfl rfl rfl ?_
            refine r_goto (t := 130) dX10_putsNode_212 rfl ?_
            obtain ⟨h50, h51⟩ := h49
            exact r_mask [true, true, true, true, true] rfl (h51 hx1 hx2 (r32c rfl) h50 k47)
          · have h52 := h36.2 c38
            refine r_bipush dX10_putsNode_191 rfl ?_
            refine r_goto (t := 198) dX10_putsNode_193 rfl ?_
            refine n_callV (N := M_X10_puts) (As := [iV 87]) (st := []) dX10_putsNode_198 mk_X10_puts km_RX10_260 kd_X10_puts rfl (zlt hn rfl) sh_73 (q := (RX10, TX10, 52)) rfl rfl (zFits_rm d n n n (Nat.le_refl n)) (Nat.le_of_ble_eq_true rfl) rfl k31 h52 ?_
            rintro _ σ54 k55 ⟨rfl, h57⟩
            change Zm _ _ _ _ _ _ 201 _ [] _
            refine r_iconst dX10_putsNode_201 ?_
            refine r_istore_n dX10_putsNode_202 rfl rfl ?_
            refine r_aload_n dX10_putsNode_203 rfl ?_
            refine r_iload dX10_putsNode_204 rfl ?_
            refine n_callV (N := M_X10_putsPoint) (As := [iV x4]) (st := []) dX10_putsNode_206 mk_X10_putsPoint km_RX10_266 kd_X10_putsPoint rfl (zlt hn rfl) sh_73 (q := (RX10, TX10, 52)) rfl rfl (zFits_rm d n n n (Nat.le_refl n)) (Nat.le_of_ble_eq_true rfl) rfl k55 h57 ?_
            rintro _ σ59 k60 ⟨rfl, h62⟩
            change Zm _ _ _ _ _ _ 209 _ [] _
            refine r_iinc dX10_putsNode_209 rfl rfl rfl ?_
            refine r_goto (t := 130) dX10_putsNode_212 rfl ?_
            obtain ⟨h63, h64⟩ := h62
            exact r_mask [true, true, true, true, true] rfl (h64 hx1 hx2 (r32c rfl) h63 k60)
        · have h65 := h33.2 c35
          refine r_bipush dX10_putsNode_181 rfl ?_
          refine r_goto (t := 198) dX10_putsNode_183 rfl ?_
          refine n_callV (N := M_X10_puts) (As := [iV 66]) (st := []) dX10_putsNode_198 mk_X10_puts km_RX10_260 kd_X10_puts rfl (zlt hn rfl) sh_73 (q := (RX10, TX10, 52)) rfl rfl (zFits_rm d n n n (Nat.le_refl n)) (Nat.le_of_ble_eq_true rfl) rfl k31 h65 ?_
          rintro _ σ67 k68 ⟨rfl, h70⟩
          change Zm _ _ _ _ _ _ 201 _ [] _
          refine r_iconst dX10_putsNode_201 ?_
          refine r_istore_n dX10_putsNode_202 rfl rfl ?_
          refine r_aload_n dX10_putsNode_203 rfl ?_
          refine r_iload dX10_putsNode_204 rfl ?_
          refine n_callV (N := M_X10_putsPoint) (As := [iV x4]) (st := []) dX10_putsNode_206 mk_X10_putsPoint km_RX10_266 kd_X10_putsPoint rfl (zlt hn rfl) sh_73 (q := (RX10, TX10, 52)) rfl rfl (zFits_rm d n n n (Nat.le_refl n)) (Nat.le_of_ble_eq_true rfl) rfl k68 h70 ?_
          rintro _ σ72 k73 ⟨rfl, h75⟩
          change Zm _ _ _ _ _ _ 209 _ [] _
          refine r_iinc dX10_putsNode_209 rfl rfl rfl ?_
          refine r_goto (t := 130) dX10_putsNode_212 rfl ?_
          obtain ⟨h76, h77⟩ := h75
          exact r_mask [true, true, true, true, true] rfl (h77 hx1 hx2 (r32c rfl) h76 k73)
    · have h78 := h14.2 c16
      refine r_goto (t := 209) dX10_putsNode_162 rfl ?_
      refine r_iinc dX10_putsNode_209 rfl rfl rfl ?_
      refine r_goto (t := 130) dX10_putsNode_212 rfl ?_
      obtain ⟨h79, h80⟩ := h78
      exact r_mask [true, true, true, true, true] rfl (h80 hx1 hx2 hx3 h79 k0)
/-! StoneRoomModel.childOf -/
theorem dX10_childOf_0 : decode M_X10_childOf.2.1 0 = .ok (.iconst 0, 1) := by decide +kernel
theorem dX10_childOf_1 : decode M_X10_childOf.2.1 1 = .ok (.istore_n 3, 1) := by decide +kernel
theorem dX10_childOf_2 : decode M_X10_childOf.2.1 2 = .ok (.iload_n 1, 1) := by decide +kernel
theorem dX10_childOf_3 : decode M_X10_childOf.2.1 3 = .ok (.iconst 1, 1) := by decide +kernel
theorem dX10_childOf_4 : decode M_X10_childOf.2.1 4 = .ok (.iadd, 1) := by decide +kernel
theorem dX10_childOf_5 : decode M_X10_childOf.2.1 5 = .ok (.istore 4, 2) := by decide +kernel
theorem dX10_childOf_7 : decode M_X10_childOf.2.1 7 = .ok (.iload 4, 2) := by decide +kernel
theorem dX10_childOf_9 : decode M_X10_childOf.2.1 9 = .ok (.sipush 250, 3) := by decide +kernel
theorem dX10_childOf_12 : decode M_X10_childOf.2.1 12 = .ok (.aload_n 0, 1) := by decide +kernel
theorem dX10_childOf_13 : decode M_X10_childOf.2.1 13 = .ok (.getfield 170, 3) := by decide +kernel
theorem dX10_childOf_16 : decode M_X10_childOf.2.1 16 = .ok (.imul, 1) := by decide +kernel
theorem dX10_childOf_17 : decode M_X10_childOf.2.1 17 = .ok (.aload_n 0, 1) := by decide +kernel
theorem dX10_childOf_18 : decode M_X10_childOf.2.1 18 = .ok (.getfield 33, 3) := by decide +kernel
theorem dX10_childOf_21 : decode M_X10_childOf.2.1 21 = .ok (.aload_n 0, 1) := by decide +kernel
theorem dX10_childOf_22 : decode M_X10_childOf.2.1 22 = .ok (.getfield 170, 3) := by decide +kernel
theorem dX10_childOf_25 : decode M_X10_childOf.2.1 25 = .ok (.iaload, 1) := by decide +kernel
theorem dX10_childOf_26 : decode M_X10_childOf.2.1 26 = .ok (.iadd, 1) := by decide +kernel
theorem dX10_childOf_27 : decode M_X10_childOf.2.1 27 = .ok (.if_icmp .ge 34, 3) := by decide +kernel
theorem dX10_childOf_30 : decode M_X10_childOf.2.1 30 = .ok (.aload_n 0, 1) := by decide +kernel
theorem dX10_childOf_31 : decode M_X10_childOf.2.1 31 = .ok (.getfield 7, 3) := by decide +kernel
theorem dX10_childOf_34 : decode M_X10_childOf.2.1 34 = .ok (.iload 4, 2) := by decide +kernel
theorem dX10_childOf_36 : decode M_X10_childOf.2.1 36 = .ok (.iaload, 1) := by decide +kernel
theorem dX10_childOf_37 : decode M_X10_childOf.2.1 37 = .ok (.iload_n 1, 1) := by decide +kernel
theorem dX10_childOf_38 : decode M_X10_childOf.2.1 38 = .ok (.if_icmp .eq 6, 3) := by decide +kernel
theorem dX10_childOf_41 : decode M_X10_childOf.2.1 41 = .ok (.goto 14, 3) := by decide +kernel
theorem dX10_childOf_44 : decode M_X10_childOf.2.1 44 = .ok (.iload_n 3, 1) := by decide +kernel
theorem dX10_childOf_45 : decode M_X10_childOf.2.1 45 = .ok (.iload_n 2, 1) := by decide +kernel
theorem dX10_childOf_46 : decode M_X10_childOf.2.1 46 = .ok (.if_icmp .ne 6, 3) := by decide +kernel
theorem dX10_childOf_49 : decode M_X10_childOf.2.1 49 = .ok (.iload 4, 2) := by decide +kernel
theorem dX10_childOf_51 : decode M_X10_childOf.2.1 51 = .ok (.ireturn, 1) := by decide +kernel
theorem dX10_childOf_52 : decode M_X10_childOf.2.1 52 = .ok (.iinc 3 1, 3) := by decide +kernel
theorem dX10_childOf_55 : decode M_X10_childOf.2.1 55 = .ok (.iinc 4 1, 3) := by decide +kernel
theorem dX10_childOf_58 : decode M_X10_childOf.2.1 58 = .ok (.goto (-51), 3) := by decide +kernel
theorem dX10_childOf_61 : decode M_X10_childOf.2.1 61 = .ok (.iconst (-1), 1) := by decide +kernel
theorem dX10_childOf_62 : decode M_X10_childOf.2.1 62 = .ok (.ireturn, 1) := by decide +kernel
def L_X10_childOf_7 (X : ZX) (d n : Nat) (P : Option Value → ZSto → Prop) (x1 : Int) (x2 : Int) (x3 : Int) (x4 : Int) (σ : ZSto) : Prop := R32 x1 → R32 x2 → R32 x3 → R32 x4 → ZOk n σ → Zn X M_X10_childOf d n P 7 [some (.ref (zB X + 73)), some (iV x1), some (iV x2), some (iV x3), some (iV x4)] [] σ
theorem w_X10_childOf {X : ZX} {d n : Nat} {P : Int → ZSto → Prop} {x1 : Int} {x2 : Int} {σ : ZSto} (hn : 104 ≤ n)  (hx1 : R32 x1) (hx2 : R32 x2)
    (h : R32 (x1 + 1) ∧ L_X10_childOf_7 X d n (zpI P) x1 x2 0 (x1 + 1) σ) :
    ZkI X M_X10_childOf (d + 1) n [.ref (zB X + 73), iV x1, iV x2] σ P := by
  refine zk_of (ls := [some (.ref (zB X + 73)), some (iV x1), some (iV x2), none, none]) pl_RX10 (Nat.le_of_ble_eq_true rfl) rfl (fun k0 => ?_)
  unfold Zn
  refine r_iconst dX10_childOf_0 ?_
  refine r_istore_n dX10_childOf_1 rfl rfl ?_
  refine r_iload_n dX10_childOf_2 rfl ?_
  refine r_iconst dX10_childOf_3 ?_
  refine r_iadd dX10_childOf_4 ?_
  refine r_istore dX10_childOf_5 rfl rfl ?_
  obtain ⟨h1, h2⟩ := h
  exact r_mask [true, true, true, true, true] rfl (h2 hx1 hx2 (r32c rfl) h1 k0)
theorem b_X10_childOf_7 {X : ZX} {d n : Nat} {P : Int → ZSto → Prop} {x1 : Int} {x2 : Int} {x3 : Int} {x4 : Int} {σ : ZSto} (hn : 104 ≤ n) 
    (h : (0 ≤ gI σ 73 10 ∧ gI σ 73 10 < 2) ∧ R32 ((250 * (gI σ 73 10)) + (gI σ 81 ((gI σ 73 10).toNat))) ∧ ((250 * (gI σ 73 10)) + (gI σ 81 ((gI σ 73 10).toNat)) ≤ x4 → P ((-1)) σ) ∧ (¬ ((250 * (gI σ 73 10)) + (gI σ 81 ((gI σ 73 10).toNat)) ≤ x4) → (0 ≤ x4 ∧ x4 < 500) ∧ (gI σ 74 x4.toNat = x1 → (¬ x3 = x2 → R32 (x3 + 1) ∧ R32 (x4 + 1) ∧ L_X10_childOf_7 X d n (zpI P) x1 x2 (x3 + 1) (x4 + 1) σ) ∧ (x3 = x2 → P x4 σ)) ∧ (¬ (gI σ 74 x4.toNat = x1) → R32 (x4 + 1) ∧ L_X10_childOf_7 X d n (zpI P) x1 x2 x3 (x4 + 1) σ))) :
    L_X10_childOf_7 X d n (zpI P) x1 x2 x3 x4 σ := by
  intro hx1 hx2 hx3 hx4 k0
  unfold Zn
  refine r_iload dX10_childOf_7 rfl ?_
  refine r_sipush dX10_childOf_9 rfl ?_
  refine r_aload_n dX10_childOf_12 rfl ?_
  refine r_getI dX10_childOf_13 kf_RX10_170 (zlt hn rfl) sh_73 (Or.inl rfl) rfl ?_
  refine r_imul dX10_childOf_16 ?_
  refine r_aload_n dX10_childOf_17 rfl ?_
  refine r_getP (a := 81) dX10_childOf_18 kf_RX10_33 (zlt hn rfl) sh_73 rfl (k0.1 _ _ _ (zlt hn rfl) p_73_7) ?_
  refine r_aload_n dX10_childOf_21 rfl ?_
  refine r_getI dX10_childOf_22 kf_RX10_170 (zlt hn rfl) sh_73 (Or.inl rfl) rfl ?_
  obtain ⟨h1, h2⟩ := h
  refine r_ialoadE dX10_childOf_25 (zlt hn rfl) sh_81 h1.1 h1.2 rfl ?_
  refine r_iadd dX10_childOf_26 ?_
  obtain ⟨h3, h4⟩ := h2
  refine r_icmp_ge (t := 61) dX10_childOf_27 rfl hx4 h3 (fun c5 => ?_) (fun c6 => ?_)
  · have h7 := h4.1 c5
    refine r_iconst dX10_childOf_61 ?_
    exact r_ireturn dX10_childOf_62 rfl ⟨k0, _, rfl, (r32c rfl), h7⟩
  · have h8 := h4.2 c6
    refine r_aload_n dX10_childOf_30 rfl ?_
    refine r_getP (a := 74) dX10_childOf_31 kf_RX10_7 (zlt hn rfl) sh_73 rfl (k0.1 _ _ _ (zlt hn rfl) p_73_0) ?_
    refine r_iload dX10_childOf_34 rfl ?_
    obtain ⟨h9, h10⟩ := h8
    refine r_ialoadE dX10_childOf_36 (zlt hn rfl) sh_74 h9.1 h9.2 rfl ?_
    refine r_iload_n dX10_childOf_37 rfl ?_
    refine r_icmp_eq (t := 44) dX10_childOf_38 rfl (k0.2.1 _ _) hx1 (fun c11 => ?_) (fun c12 => ?_)
    · have h13 := h10.1 c11
      refine r_iload_n dX10_childOf_44 rfl ?_
      refine r_iload_n dX10_childOf_45 rfl ?_
      refine r_icmp_ne (t := 52) dX10_childOf_46 rfl hx3 hx2 (fun c14 => ?_) (fun c15 => ?_)
      · have h16 := h13.1 c14
        refine r_iinc dX10_childOf_52 rfl rfl rfl ?_
        refine r_iinc dX10_childOf_55 rfl rfl rfl ?_
        refine r_goto (t := 7) dX10_childOf_58 rfl ?_
        obtain ⟨h17, h18⟩ := h16
        obtain ⟨h19, h20⟩ := h18
        exact r_mask [true, true, true, true, true] rfl (h20 hx1 hx2 h17 h19 k0)
      · have h21 := h13.2 c15
        refine r_iload dX10_childOf_49 rfl ?_
        exact r_ireturn dX10_childOf_51 rfl ⟨k0, _, rfl, hx4, h21⟩
    · have h22 := h10.2 c12
      refine r_goto (t := 55) dX10_childOf_41 rfl ?_
      refine r_iinc dX10_childOf_55 rfl rfl rfl ?_
      refine r_goto (t := 7) dX10_childOf_58 rfl ?_
      obtain ⟨h23, h24⟩ := h22
      exact r_mask [true, true, true, true, true] rfl (h24 hx1 hx2 hx3 h23 k0)
/-! StoneRoomModel.write -/
theorem dX10_write_0 : decode M_X10_write.2.1 0 = .ok (.aload_n 0, 1) := by decide +kernel
theorem dX10_write_1 : decode M_X10_write.2.1 1 = .ok (.aload_n 0, 1) := by decide +kernel
theorem dX10_write_2 : decode M_X10_write.2.1 2 = .ok (.getfield 36, 3) := by decide +kernel
theorem dX10_write_5 : decode M_X10_write.2.1 5 = .ok (.aload_n 0, 1) := by decide +kernel
theorem dX10_write_6 : decode M_X10_write.2.1 6 = .ok (.getfield 170, 3) := by decide +kernel
theorem dX10_write_9 : decode M_X10_write.2.1 9 = .ok (.iaload, 1) := by decide +kernel
theorem dX10_write_10 : decode M_X10_write.2.1 10 = .ok (.putfield 139, 3) := by decide +kernel
theorem dX10_write_13 : decode M_X10_write.2.1 13 = .ok (.aload_n 0, 1) := by decide +kernel
theorem dX10_write_14 : decode M_X10_write.2.1 14 = .ok (.iconst 0, 1) := by decide +kernel
theorem dX10_write_15 : decode M_X10_write.2.1 15 = .ok (.putfield 257, 3) := by decide +kernel
theorem dX10_write_18 : decode M_X10_write.2.1 18 = .ok (.sipush 250, 3) := by decide +kernel
theorem dX10_write_21 : decode M_X10_write.2.1 21 = .ok (.aload_n 0, 1) := by decide +kernel
theorem dX10_write_22 : decode M_X10_write.2.1 22 = .ok (.getfield 170, 3) := by decide +kernel
theorem dX10_write_25 : decode M_X10_write.2.1 25 = .ok (.imul, 1) := by decide +kernel
theorem dX10_write_26 : decode M_X10_write.2.1 26 = .ok (.istore_n 1, 1) := by decide +kernel
theorem dX10_write_27 : decode M_X10_write.2.1 27 = .ok (.aload_n 0, 1) := by decide +kernel
theorem dX10_write_28 : decode M_X10_write.2.1 28 = .ok (.bipush 40, 2) := by decide +kernel
theorem dX10_write_30 : decode M_X10_write.2.1 30 = .ok (.invokevirtual 260, 3) := by decide +kernel
theorem dX10_write_33 : decode M_X10_write.2.1 33 = .ok (.aload_n 0, 1) := by decide +kernel
theorem dX10_write_34 : decode M_X10_write.2.1 34 = .ok (.iload_n 1, 1) := by decide +kernel
theorem dX10_write_35 : decode M_X10_write.2.1 35 = .ok (.invokevirtual 269, 3) := by decide +kernel
theorem dX10_write_38 : decode M_X10_write.2.1 38 = .ok (.aload_n 0, 1) := by decide +kernel
theorem dX10_write_39 : decode M_X10_write.2.1 39 = .ok (.getfield 71, 3) := by decide +kernel
theorem dX10_write_42 : decode M_X10_write.2.1 42 = .ok (.iconst 0, 1) := by decide +kernel
theorem dX10_write_43 : decode M_X10_write.2.1 43 = .ok (.iconst 0, 1) := by decide +kernel
theorem dX10_write_44 : decode M_X10_write.2.1 44 = .ok (.iastore, 1) := by decide +kernel
theorem dX10_write_45 : decode M_X10_write.2.1 45 = .ok (.iload_n 1, 1) := by decide +kernel
theorem dX10_write_46 : decode M_X10_write.2.1 46 = .ok (.ifCond .lt 156, 3) := by decide +kernel
theorem dX10_write_49 : decode M_X10_write.2.1 49 = .ok (.aload_n 0, 1) := by decide +kernel
theorem dX10_write_50 : decode M_X10_write.2.1 50 = .ok (.getfield 71, 3) := by decide +kernel
theorem dX10_write_53 : decode M_X10_write.2.1 53 = .ok (.iload_n 1, 1) := by decide +kernel
theorem dX10_write_54 : decode M_X10_write.2.1 54 = .ok (.sipush 250, 3) := by decide +kernel
theorem dX10_write_57 : decode M_X10_write.2.1 57 = .ok (.aload_n 0, 1) := by decide +kernel
theorem dX10_write_58 : decode M_X10_write.2.1 58 = .ok (.getfield 170, 3) := by decide +kernel
theorem dX10_write_61 : decode M_X10_write.2.1 61 = .ok (.imul, 1) := by decide +kernel
theorem dX10_write_62 : decode M_X10_write.2.1 62 = .ok (.isub, 1) := by decide +kernel
theorem dX10_write_63 : decode M_X10_write.2.1 63 = .ok (.iaload, 1) := by decide +kernel
theorem dX10_write_64 : decode M_X10_write.2.1 64 = .ok (.istore_n 2, 1) := by decide +kernel
theorem dX10_write_65 : decode M_X10_write.2.1 65 = .ok (.aload_n 0, 1) := by decide +kernel
theorem dX10_write_66 : decode M_X10_write.2.1 66 = .ok (.iload_n 1, 1) := by decide +kernel
theorem dX10_write_67 : decode M_X10_write.2.1 67 = .ok (.iconst 1, 1) := by decide +kernel
theorem dX10_write_68 : decode M_X10_write.2.1 68 = .ok (.invokevirtual 272, 3) := by decide +kernel
theorem dX10_write_71 : decode M_X10_write.2.1 71 = .ok (.ifCond .lt 7, 3) := by decide +kernel
theorem dX10_write_74 : decode M_X10_write.2.1 74 = .ok (.iconst 1, 1) := by decide +kernel
theorem dX10_write_75 : decode M_X10_write.2.1 75 = .ok (.goto 4, 3) := by decide +kernel
theorem dX10_write_78 : decode M_X10_write.2.1 78 = .ok (.iconst 0, 1) := by decide +kernel
theorem dX10_write_79 : decode M_X10_write.2.1 79 = .ok (.istore_n 3, 1) := by decide +kernel
theorem dX10_write_80 : decode M_X10_write.2.1 80 = .ok (.aload_n 0, 1) := by decide +kernel
theorem dX10_write_81 : decode M_X10_write.2.1 81 = .ok (.iload_n 1, 1) := by decide +kernel
theorem dX10_write_82 : decode M_X10_write.2.1 82 = .ok (.iload_n 2, 1) := by decide +kernel
theorem dX10_write_83 : decode M_X10_write.2.1 83 = .ok (.invokevirtual 272, 3) := by decide +kernel
theorem dX10_write_86 : decode M_X10_write.2.1 86 = .ok (.istore 4, 2) := by decide +kernel
theorem dX10_write_88 : decode M_X10_write.2.1 88 = .ok (.iload 4, 2) := by decide +kernel
theorem dX10_write_90 : decode M_X10_write.2.1 90 = .ok (.ifCond .ge 54, 3) := by decide +kernel
theorem dX10_write_93 : decode M_X10_write.2.1 93 = .ok (.aload_n 0, 1) := by decide +kernel
theorem dX10_write_94 : decode M_X10_write.2.1 94 = .ok (.getfield 7, 3) := by decide +kernel
theorem dX10_write_97 : decode M_X10_write.2.1 97 = .ok (.iload_n 1, 1) := by decide +kernel
theorem dX10_write_98 : decode M_X10_write.2.1 98 = .ok (.iaload, 1) := by decide +kernel
theorem dX10_write_99 : decode M_X10_write.2.1 99 = .ok (.ifCond .lt 17, 3) := by decide +kernel
theorem dX10_write_102 : decode M_X10_write.2.1 102 = .ok (.aload_n 0, 1) := by decide +kernel
theorem dX10_write_103 : decode M_X10_write.2.1 103 = .ok (.aload_n 0, 1) := by decide +kernel
theorem dX10_write_104 : decode M_X10_write.2.1 104 = .ok (.getfield 7, 3) := by decide +kernel
theorem dX10_write_107 : decode M_X10_write.2.1 107 = .ok (.iload_n 1, 1) := by decide +kernel
theorem dX10_write_108 : decode M_X10_write.2.1 108 = .ok (.iaload, 1) := by decide +kernel
theorem dX10_write_109 : decode M_X10_write.2.1 109 = .ok (.iconst 1, 1) := by decide +kernel
theorem dX10_write_110 : decode M_X10_write.2.1 110 = .ok (.invokevirtual 272, 3) := by decide +kernel
theorem dX10_write_113 : decode M_X10_write.2.1 113 = .ok (.ifCond .lt 7, 3) := by decide +kernel
theorem dX10_write_116 : decode M_X10_write.2.1 116 = .ok (.iconst 1, 1) := by decide +kernel
theorem dX10_write_117 : decode M_X10_write.2.1 117 = .ok (.goto 4, 3) := by decide +kernel
theorem dX10_write_120 : decode M_X10_write.2.1 120 = .ok (.iconst 0, 1) := by decide +kernel
theorem dX10_write_121 : decode M_X10_write.2.1 121 = .ok (.istore 5, 2) := by decide +kernel
theorem dX10_write_123 : decode M_X10_write.2.1 123 = .ok (.iload 5, 2) := by decide +kernel
theorem dX10_write_125 : decode M_X10_write.2.1 125 = .ok (.ifCond .eq 9, 3) := by decide +kernel
theorem dX10_write_128 : decode M_X10_write.2.1 128 = .ok (.aload_n 0, 1) := by decide +kernel
theorem dX10_write_129 : decode M_X10_write.2.1 129 = .ok (.bipush 41, 2) := by decide +kernel
theorem dX10_write_131 : decode M_X10_write.2.1 131 = .ok (.invokevirtual 260, 3) := by decide +kernel
theorem dX10_write_134 : decode M_X10_write.2.1 134 = .ok (.aload_n 0, 1) := by decide +kernel
theorem dX10_write_135 : decode M_X10_write.2.1 135 = .ok (.getfield 7, 3) := by decide +kernel
theorem dX10_write_138 : decode M_X10_write.2.1 138 = .ok (.iload_n 1, 1) := by decide +kernel
theorem dX10_write_139 : decode M_X10_write.2.1 139 = .ok (.iaload, 1) := by decide +kernel
theorem dX10_write_140 : decode M_X10_write.2.1 140 = .ok (.istore_n 1, 1) := by decide +kernel
theorem dX10_write_141 : decode M_X10_write.2.1 141 = .ok (.goto (-96), 3) := by decide +kernel
theorem dX10_write_144 : decode M_X10_write.2.1 144 = .ok (.aload_n 0, 1) := by decide +kernel
theorem dX10_write_145 : decode M_X10_write.2.1 145 = .ok (.getfield 71, 3) := by decide +kernel
theorem dX10_write_148 : decode M_X10_write.2.1 148 = .ok (.iload_n 1, 1) := by decide +kernel
theorem dX10_write_149 : decode M_X10_write.2.1 149 = .ok (.sipush 250, 3) := by decide +kernel
theorem dX10_write_152 : decode M_X10_write.2.1 152 = .ok (.aload_n 0, 1) := by decide +kernel
theorem dX10_write_153 : decode M_X10_write.2.1 153 = .ok (.getfield 170, 3) := by decide +kernel
theorem dX10_write_156 : decode M_X10_write.2.1 156 = .ok (.imul, 1) := by decide +kernel
theorem dX10_write_157 : decode M_X10_write.2.1 157 = .ok (.isub, 1) := by decide +kernel
theorem dX10_write_158 : decode M_X10_write.2.1 158 = .ok (.dup2, 1) := by decide +kernel
theorem dX10_write_159 : decode M_X10_write.2.1 159 = .ok (.iaload, 1) := by decide +kernel
theorem dX10_write_160 : decode M_X10_write.2.1 160 = .ok (.iconst 1, 1) := by decide +kernel
theorem dX10_write_161 : decode M_X10_write.2.1 161 = .ok (.iadd, 1) := by decide +kernel
theorem dX10_write_162 : decode M_X10_write.2.1 162 = .ok (.iastore, 1) := by decide +kernel
theorem dX10_write_163 : decode M_X10_write.2.1 163 = .ok (.iload_n 3, 1) := by decide +kernel
theorem dX10_write_164 : decode M_X10_write.2.1 164 = .ok (.ifCond .eq 9, 3) := by decide +kernel
theorem dX10_write_167 : decode M_X10_write.2.1 167 = .ok (.aload_n 0, 1) := by decide +kernel
theorem dX10_write_168 : decode M_X10_write.2.1 168 = .ok (.bipush 40, 2) := by decide +kernel
theorem dX10_write_170 : decode M_X10_write.2.1 170 = .ok (.invokevirtual 260, 3) := by decide +kernel
theorem dX10_write_173 : decode M_X10_write.2.1 173 = .ok (.aload_n 0, 1) := by decide +kernel
theorem dX10_write_174 : decode M_X10_write.2.1 174 = .ok (.iload 4, 2) := by decide +kernel
theorem dX10_write_176 : decode M_X10_write.2.1 176 = .ok (.invokevirtual 269, 3) := by decide +kernel
theorem dX10_write_179 : decode M_X10_write.2.1 179 = .ok (.aload_n 0, 1) := by decide +kernel
theorem dX10_write_180 : decode M_X10_write.2.1 180 = .ok (.getfield 71, 3) := by decide +kernel
theorem dX10_write_183 : decode M_X10_write.2.1 183 = .ok (.iload 4, 2) := by decide +kernel
theorem dX10_write_185 : decode M_X10_write.2.1 185 = .ok (.sipush 250, 3) := by decide +kernel
theorem dX10_write_188 : decode M_X10_write.2.1 188 = .ok (.aload_n 0, 1) := by decide +kernel
theorem dX10_write_189 : decode M_X10_write.2.1 189 = .ok (.getfield 170, 3) := by decide +kernel
theorem dX10_write_192 : decode M_X10_write.2.1 192 = .ok (.imul, 1) := by decide +kernel
theorem dX10_write_193 : decode M_X10_write.2.1 193 = .ok (.isub, 1) := by decide +kernel
theorem dX10_write_194 : decode M_X10_write.2.1 194 = .ok (.iconst 0, 1) := by decide +kernel
theorem dX10_write_195 : decode M_X10_write.2.1 195 = .ok (.iastore, 1) := by decide +kernel
theorem dX10_write_196 : decode M_X10_write.2.1 196 = .ok (.iload 4, 2) := by decide +kernel
theorem dX10_write_198 : decode M_X10_write.2.1 198 = .ok (.istore_n 1, 1) := by decide +kernel
theorem dX10_write_199 : decode M_X10_write.2.1 199 = .ok (.goto (-154), 3) := by decide +kernel
theorem dX10_write_202 : decode M_X10_write.2.1 202 = .ok (.aload_n 0, 1) := by decide +kernel
theorem dX10_write_203 : decode M_X10_write.2.1 203 = .ok (.getfield 257, 3) := by decide +kernel
theorem dX10_write_206 : decode M_X10_write.2.1 206 = .ok (.ireturn, 1) := by decide +kernel
def L_X10_write_45 (X : ZX) (d n : Nat) (P : Option Value → ZSto → Prop) (x1 : Int) (σ : ZSto) : Prop := R32 x1 → ZOk n σ → Zn X M_X10_write d n P 45 [some (.ref (zB X + 73)), some (iV x1), none, none, none, none] [] σ
def L_X10_write_79 (X : ZX) (d n : Nat) (P : Option Value → ZSto → Prop) (x1 : Int) (x2 : Int) (x20 : Int) (σ : ZSto) : Prop := R32 x1 → R32 x2 → R32 x20 → ZOk n σ → Zn X M_X10_write d n P 79 [some (.ref (zB X + 73)), some (iV x1), some (iV x2), none, none, none] [iV x20] σ
theorem w_X10_write {X : ZX} {d n : Nat} {P : Int → ZSto → Prop}  {σ : ZSto} (hn : 104 ≤ n)  
    (h : (0 ≤ gI σ 73 10 ∧ gI σ 73 10 < 2) ∧ (∀ y5 : Int, y5 = 250 * (gI σ 73 10) → ZkV X M_X10_puts d n [.ref (zB X + 73), iV 40] (sI (sI σ 73 13 (gI σ 82 ((gI σ 73 10).toNat))) 73 31 0) (fun σ9 => ZkV X M_X10_putsNode d n [.ref (zB X + 73), iV y5] σ9 (fun σ14 => R32 y5 ∧ L_X10_write_45 X d n (zpI P) y5 (sI σ14 91 0 0))))) :
    ZkI X M_X10_write (d + 1) n [.ref (zB X + 73)] σ P := by
  refine zk_of (ls := [some (.ref (zB X + 73)), none, none, none, none, none]) pl_RX10 (Nat.le_of_ble_eq_true rfl) rfl (fun k0 => ?_)
  unfold Zn
  refine r_aload_n dX10_write_0 rfl ?_
  refine r_aload_n dX10_write_1 rfl ?_
  refine r_getP (a := 82) dX10_write_2 kf_RX10_36 (zlt hn rfl) sh_73 rfl (k0.1 _ _ _ (zlt hn rfl) p_73_8) ?_
  refine r_aload_n dX10_write_5 rfl ?_
  refine r_getI dX10_write_6 kf_RX10_170 (zlt hn rfl) sh_73 (Or.inl rfl) rfl ?_
  obtain ⟨h1, h2⟩ := h
  refine r_ialoadE dX10_write_9 (zlt hn rfl) sh_82 h1.1 h1.2 rfl ?_
  refine r_putI dX10_write_10 kf_RX10_139 (zlt hn rfl) sh_73 rfl (Or.inl rfl) ?_
  have k3 := zok_o (i := 13) (x := gI σ 82 ((gI σ 73 10).toNat)) k0 sh_73 (k0.2.1 _ _)
  refine r_aload_n dX10_write_13 rfl ?_
  refine r_iconst dX10_write_14 ?_
  refine r_putI dX10_write_15 kf_RX10_257 (zlt hn rfl) sh_73 rfl (Or.inl rfl) ?_
  have k4 := zok_o (i := 31) (x := 0) k3 sh_73 (r32c rfl)
  refine r_sipush dX10_write_18 rfl ?_
  refine r_aload_n dX10_write_21 rfl ?_
  refine r_getI dX10_write_22 kf_RX10_170 (zlt hn rfl) sh_73 (Or.inl rfl) ((gI_f (by decide)).trans (gI_f (by decide))) ?_
  refine r_imul dX10_write_25 ?_
  refine r_name (fun y5 e6 => ?_)
  have h7 := h2 y5 e6
  refine r_istore_n dX10_write_26 rfl rfl ?_
  refine r_aload_n dX10_write_27 rfl ?_
  refine r_bipush dX10_write_28 rfl ?_
  refine n_callV (N := M_X10_puts) (As := [iV 40]) (st := []) dX10_write_30 mk_X10_puts km_RX10_260 kd_X10_puts rfl (zlt hn rfl) sh_73 (q := (RX10, TX10, 52)) rfl rfl (zFits_rm d n n n (Nat.le_refl n)) (Nat.le_of_ble_eq_true rfl) rfl k4 h7 ?_
  rintro _ σ9 k10 ⟨rfl, h12⟩
  change Zm _ _ _ _ _ _ 33 _ [] _
  refine r_aload_n dX10_write_33 rfl ?_
  refine r_iload_n dX10_write_34 rfl ?_
  refine n_callV (N := M_X10_putsNode) (As := [iV y5]) (st := []) dX10_write_35 mk_X10_putsNode km_RX10_269 kd_X10_putsNode rfl (zlt hn rfl) sh_73 (q := (RX10, TX10, 52)) rfl rfl (zFits_rm d n n n (Nat.le_refl n)) (Nat.le_of_ble_eq_true rfl) rfl k10 h12 ?_
  rintro _ σ14 k15 ⟨rfl, h17⟩
  change Zm _ _ _ _ _ _ 38 _ [] _
  refine r_aload_n dX10_write_38 rfl ?_
  refine r_getP (a := 91) dX10_write_39 kf_RX10_71 (zlt hn rfl) sh_73 rfl (k15.1 _ _ _ (zlt hn rfl) p_73_32) ?_
  refine r_iconst dX10_write_42 ?_
  refine r_iconst dX10_write_43 ?_
  refine r_iastore dX10_write_44 (zlt hn rfl) sh_91 (by decide) (by decide) ?_
  have k18 := zok_i (i := 0) (x := 0) k15 sh_91 (r32c rfl)
  obtain ⟨h19, h20⟩ := h17
  exact r_mask [true, true, false, false, false, false] rfl (h20 h19 k18)
theorem b_X10_write_45 {X : ZX} {d n : Nat} {P : Int → ZSto → Prop} {x1 : Int} {σ : ZSto} (hn : 104 ≤ n) 
    (h : (x1 < 0 → P (gI σ 73 31) σ) ∧ (¬ (x1 < 0) → (0 ≤ x1 - (250 * (gI σ 73 10)) ∧ x1 - (250 * (gI σ 73 10)) < 250) ∧ (∀ y7 : Int, y7 = gI σ 91 ((x1 - (250 * (gI σ 73 10))).toNat) → ZkI X M_X10_childOf d n [.ref (zB X + 73), iV x1, iV 1] σ (fun v10 σ11 => (v10 < 0 → L_X10_write_79 X d n (zpI P) x1 y7 0 σ11) ∧ (¬ (v10 < 0) → L_X10_write_79 X d n (zpI P) x1 y7 1 σ11))))) :
    L_X10_write_45 X d n (zpI P) x1 σ := by
  intro hx1 k0
  unfold Zn
  refine r_iload_n dX10_write_45 rfl ?_
  refine r_if_lt (t := 202) dX10_write_46 rfl hx1  (fun c1 => ?_) (fun c2 => ?_)
  · have h3 := h.1 c1
    refine r_aload_n dX10_write_202 rfl ?_
    refine r_getI dX10_write_203 kf_RX10_257 (zlt hn rfl) sh_73 (Or.inl rfl) rfl ?_
    exact r_ireturn dX10_write_206 rfl ⟨k0, _, rfl, (k0.2.1 _ _), h3⟩
  · have h4 := h.2 c2
    refine r_aload_n dX10_write_49 rfl ?_
    refine r_getP (a := 91) dX10_write_50 kf_RX10_71 (zlt hn rfl) sh_73 rfl (k0.1 _ _ _ (zlt hn rfl) p_73_32) ?_
    refine r_iload_n dX10_write_53 rfl ?_
    refine r_sipush dX10_write_54 rfl ?_
    refine r_aload_n dX10_write_57 rfl ?_
    refine r_getI dX10_write_58 kf_RX10_170 (zlt hn rfl) sh_73 (Or.inl rfl) rfl ?_
    refine r_imul dX10_write_61 ?_
    refine r_isub dX10_write_62 ?_
    obtain ⟨h5, h6⟩ := h4
    refine r_ialoadE dX10_write_63 (zlt hn rfl) sh_91 h5.1 h5.2 rfl ?_
    refine r_name (fun y7 e8 => ?_)
    have h9 := h6 y7 e8
    refine r_istore_n dX10_write_64 rfl rfl ?_
    refine r_aload_n dX10_write_65 rfl ?_
    refine r_iload_n dX10_write_66 rfl ?_
    refine r_iconst dX10_write_67 ?_
    refine n_callV (N := M_X10_childOf) (As := [iV x1, iV 1]) (st := []) dX10_write_68 mk_X10_childOf km_RX10_272 kd_X10_childOf rfl (zlt hn rfl) sh_73 (q := (RX10, TX10, 52)) rfl rfl (zFits_rm d n n n (Nat.le_refl n)) (Nat.le_of_ble_eq_true rfl) rfl k0 h9 ?_
    rintro _ σ11 k12 ⟨v10, rfl, h13, h14⟩
    change Zm _ _ _ _ _ _ 71 _ [iV v10] _
    refine r_if_lt (t := 78) dX10_write_71 rfl h13  (fun c15 => ?_) (fun c16 => ?_)
    · have h17 := h14.1 c15
      refine r_iconst dX10_write_78 ?_
      exact r_mask [true, true, true, false, false, false] rfl (h17 hx1 (by rw [e8]; exact (k0.2.1 _ _)) (r32c rfl) k12)
    · have h18 := h14.2 c16
      refine r_iconst dX10_write_74 ?_
      refine r_goto (t := 79) dX10_write_75 rfl ?_
      exact r_mask [true, true, true, false, false, false] rfl (h18 hx1 (by rw [e8]; exact (k0.2.1 _ _)) (r32c rfl) k12)
theorem b_X10_write_79 {X : ZX} {d n : Nat} {P : Int → ZSto → Prop} {x1 : Int} {x2 : Int} {x20 : Int} {σ : ZSto} (hn : 104 ≤ n) 
    (h : ZkI X M_X10_childOf d n [.ref (zB X + 73), iV x1, iV x2] σ (fun v1 σ2 => (0 ≤ v1 → (0 ≤ x1 - (250 * (gI σ2 73 10)) ∧ x1 - (250 * (gI σ2 73 10)) < 250) ∧ R32 ((gI σ2 91 ((x1 - (250 * (gI σ2 73 10))).toNat)) + 1) ∧ (x20 = 0 → ZkV X M_X10_putsNode d n [.ref (zB X + 73), iV v1] (sI σ2 91 ((x1 - (250 * (gI σ2 73 10))).toNat) ((gI σ2 91 ((x1 - (250 * (gI σ2 73 10))).toNat)) + 1)) (fun σ18 => (0 ≤ v1 - (250 * (gI σ18 73 10)) ∧ v1 - (250 * (gI σ18 73 10)) < 250) ∧ L_X10_write_45 X d n (zpI P) v1 (sI σ18 91 ((v1 - (250 * (gI σ18 73 10))).toNat) 0))) ∧ (¬ (x20 = 0) → ZkV X M_X10_puts d n [.ref (zB X + 73), iV 40] (sI σ2 91 ((x1 - (250 * (gI σ2 73 10))).toNat) ((gI σ2 91 ((x1 - (250 * (gI σ2 73 10))).toNat)) + 1)) (fun σ27 => ZkV X M_X10_putsNode d n [.ref (zB X + 73), iV v1] σ27 (fun σ32 => (0 ≤ v1 - (250 * (gI σ32 73 10)) ∧ v1 - (250 * (gI σ32 73 10)) < 250) ∧ L_X10_write_45 X d n (zpI P) v1 (sI σ32 91 ((v1 - (250 * (gI σ32 73 10))).toNat) 0))))) ∧ (¬ (0 ≤ v1) → (0 ≤ x1 ∧ x1 < 500) ∧ (gI σ2 74 x1.toNat < 0 → ZkV X M_X10_puts d n [.ref (zB X + 73), iV 41] σ2 (fun σ47 => (∀ y51 : Int, y51 = gI σ47 74 x1.toNat → L_X10_write_45 X d n (zpI P) y51 σ47))) ∧ (¬ (gI σ2 74 x1.toNat < 0) → ZkI X M_X10_childOf d n [.ref (zB X + 73), iV (gI σ2 74 x1.toNat), iV 1] σ2 (fun v55 σ56 => (v55 < 0 → (∀ y64 : Int, y64 = gI σ56 74 x1.toNat → L_X10_write_45 X d n (zpI P) y64 σ56)) ∧ (¬ (v55 < 0) → ZkV X M_X10_puts d n [.ref (zB X + 73), iV 41] σ56 (fun σ70 => (∀ y74 : Int, y74 = gI σ70 74 x1.toNat → L_X10_write_45 X d n (zpI P) y74 σ70)))))))) :
    L_X10_write_79 X d n (zpI P) x1 x2 x20 σ := by
  intro hx1 hx2 hx20 k0
  unfold Zn
  refine r_istore_n dX10_write_79 rfl rfl ?_
  refine r_aload_n dX10_write_80 rfl ?_
  refine r_iload_n dX10_write_81 rfl ?_
  refine r_iload_n dX10_write_82 rfl ?_
  refine n_callV (N := M_X10_childOf) (As := [iV x1, iV x2]) (st := []) dX10_write_83 mk_X10_childOf km_RX10_272 kd_X10_childOf rfl (zlt hn rfl) sh_73 (q := (RX10, TX10, 52)) rfl rfl (zFits_rm d n n n (Nat.le_refl n)) (Nat.le_of_ble_eq_true rfl) rfl k0 h ?_
  rintro _ σ2 k3 ⟨v1, rfl, h4, h5⟩
  change Zm _ _ _ _ _ _ 86 _ [iV v1] _
  refine r_istore dX10_write_86 rfl rfl ?_
  refine r_iload dX10_write_88 rfl ?_
  refine r_if_ge (t := 144) dX10_write_90 rfl h4  (fun c6 => ?_) (fun c7 => ?_)
  · have h8 := h5.1 c6
    refine r_aload_n dX10_write_144 rfl ?_
    refine r_getP (a := 91) dX10_write_145 kf_RX10_71 (zlt hn rfl) sh_73 rfl (k3.1 _ _ _ (zlt hn rfl) p_73_32) ?_
    refine r_iload_n dX10_write_148 rfl ?_
    refine r_sipush dX10_write_149 rfl ?_
    refine r_aload_n dX10_write_152 rfl ?_
    refine r_getI dX10_write_153 kf_RX10_170 (zlt hn rfl) sh_73 (Or.inl rfl) rfl ?_
    refine r_imul dX10_write_156 ?_
    refine r_isub dX10_write_157 ?_
    refine r_dup2 dX10_write_158 rfl rfl ?_
    obtain ⟨h9, h10⟩ := h8
    refine r_ialoadE dX10_write_159 (zlt hn rfl) sh_91 h9.1 h9.2 rfl ?_
    refine r_iconst dX10_write_160 ?_
    refine r_iadd dX10_write_161 ?_
    obtain ⟨h12, h13⟩ := h10
    refine r_iastore dX10_write_162 (zlt hn rfl) sh_91 h9.1 h9.2 ?_
    have k11 := zok_i (i := (x1 - (250 * (gI σ2 73 10))).toNat) (x := (gI σ2 91 ((x1 - (250 * (gI σ2 73 10))).toNat)) + 1) k3 sh_91 h12
    refine r_iload_n dX10_write_163 rfl ?_
    refine r_if_eq (t := 173) dX10_write_164 rfl hx20  (fun c14 => ?_) (fun c15 => ?_)
    · have h16 := h13.1 c14
      refine r_aload_n dX10_write_173 rfl ?_
      refine r_iload dX10_write_174 rfl ?_
      refine n_callV (N := M_X10_putsNode) (As := [iV v1]) (st := []) dX10_write_176 mk_X10_putsNode km_RX10_269 kd_X10_putsNode rfl (zlt hn rfl) sh_73 (q := (RX10, TX10, 52)) rfl rfl (zFits_rm d n n n (Nat.le_refl n)) (Nat.le_of_ble_eq_true rfl) rfl k11 h16 ?_
      rintro _ σ18 k19 ⟨rfl, h21⟩
      change Zm _ _ _ _ _ _ 179 _ [] _
      refine r_aload_n dX10_write_179 rfl ?_
      refine r_getP (a := 91) dX10_write_180 kf_RX10_71 (zlt hn rfl) sh_73 rfl (k19.1 _ _ _ (zlt hn rfl) p_73_32) ?_
      refine r_iload dX10_write_183 rfl ?_
      refine r_sipush dX10_write_185 rfl ?_
      refine r_aload_n dX10_write_188 rfl ?_
      refine r_getI dX10_write_189 kf_RX10_170 (zlt hn rfl) sh_73 (Or.inl rfl) rfl ?_
      refine r_imul dX10_write_192 ?_
      refine r_isub dX10_write_193 ?_
      refine r_iconst dX10_write_194 ?_
      obtain ⟨h22, h23⟩ := h21
      refine r_iastore dX10_write_195 (zlt hn rfl) sh_91 h22.1 h22.2 ?_
      have k24 := zok_i (i := (v1 - (250 * (gI σ18 73 10))).toNat) (x := 0) k19 sh_91 (r32c rfl)
      refine r_iload dX10_write_196 rfl ?_
      refine r_istore_n dX10_write_198 rfl rfl ?_
      refine r_goto (t := 45) dX10_write_199 rfl ?_
      exact r_mask [true, true, false, false, false, false] rfl (h23 h4 k24)
    · have h25 := h13.2 c15
      refine r_aload_n dX10_write_167 rfl ?_
      refine r_bipush dX10_write_168 rfl ?_
      refine n_callV (N := M_X10_puts) (As := [iV 40]) (st := []) dX10_write_170 mk_X10_puts km_RX10_260 kd_X10_puts rfl (zlt hn rfl) sh_73 (q := (RX10, TX10, 52)) rfl rfl (zFits_rm d n n n (Nat.le_refl n)) (Nat.le_of_ble_eq_true rfl) rfl k11 h25 ?_
      rintro _ σ27 k28 ⟨rfl, h30⟩
      change Zm _ _ _ _ _ _ 173 _ [] _
      refine r_aload_n dX10_write_173 rfl ?_
      refine r_iload dX10_write_174 rfl ?_
      refine n_callV (N := M_X10_putsNode) (As := [iV v1]) (st := []) dX10_write_176 mk_X10_putsNode km_RX10_269 kd_X10_putsNode rfl (zlt hn rfl) sh_73 (q := (RX10, TX10, 52)) rfl rfl (zFits_rm d n n n (Nat.le_refl n)) (Nat.le_of_ble_eq_true rfl) rfl k28 h30 ?_
      rintro _ σ32 k33 ⟨rfl, h35⟩
      change Zm _ _ _ _ _ _ 179 _ [] _
      refine r_aload_n dX10_write_179 rfl ?_
      refine r_getP (a := 91) dX10_write_180 kf_RX10_71 (zlt hn rfl) sh_73 rfl (k33.1 _ _ _ (zlt hn rfl) p_73_32) ?_
      refine r_iload dX10_write_183 rfl ?_
      refine r_sipush dX10_write_185 rfl ?_
      refine r_aload_n dX10_write_188 rfl ?_
      refine r_getI dX10_write_189 kf_RX10_170 (zlt hn rfl) sh_73 (Or.inl rfl) rfl ?_
      refine r_imul dX10_write_192 ?_
      refine r_isub dX10_write_193 ?_
      refine r_iconst dX10_write_194 ?_
      obtain ⟨h36, h37⟩ := h35
      refine r_iastore dX10_write_195 (zlt hn rfl) sh_91 h36.1 h36.2 ?_
      have k38 := zok_i (i := (v1 - (250 * (gI σ32 73 10))).toNat) (x := 0) k33 sh_91 (r32c rfl)
      refine r_iload dX10_write_196 rfl ?_
      refine r_istore_n dX10_write_198 rfl rfl ?_
      refine r_goto (t := 45) dX10_write_199 rfl ?_
      exact r_mask [true, true, false, false, false, false] rfl (h37 h4 k38)
  · have h39 := h5.2 c7
    refine r_aload_n dX10_write_93 rfl ?_
    refine r_getP (a := 74) dX10_write_94 kf_RX10_7 (zlt hn rfl) sh_73 rfl (k3.1 _ _ _ (zlt hn rfl) p_73_0) ?_
    refine r_iload_n dX10_write_97 rfl ?_
    obtain ⟨h40, h41⟩ := h39
    refine r_ialoadE dX10_write_98 (zlt hn rfl) sh_74 h40.1 h40.2 rfl ?_
    refine r_if_lt (t := 116) dX10_write_99 rfl (k3.2.1 _ _)  (fun c42 => ?_) (fun c43 => ?_)
    · have h44 := h41.1 c42
      refine r_iconst dX10_write_116 ?_
      refine r_goto (t := 121) dX10_write_117 rfl ?_
      refine r_istore dX10_write_121 rfl rfl ?_
      refine r_iload dX10_write_123 rfl ?_
      refine r_if_eq (t := 134) dX10_write_125 rfl (r32c rfl)  (fun c45 => absurd c45 (by decide)) (fun _ => ?_)
      refine r_aload_n dX10_write_128 rfl ?_
      refine r_bipush dX10_write_129 rfl ?_
      refine n_callV (N := M_X10_puts) (As := [iV 41]) (st := []) dX10_write_131 mk_X10_puts km_RX10_260 kd_X10_puts rfl (zlt hn rfl) sh_73 (q := (RX10, TX10, 52)) rfl rfl (zFits_rm d n n n (Nat.le_refl n)) (Nat.le_of_ble_eq_true rfl) rfl k3 h44 ?_
      rintro _ σ47 k48 ⟨rfl, h50⟩
      change Zm _ _ _ _ _ _ 134 _ [] _
      refine r_aload_n dX10_write_134 rfl ?_
      refine r_getP (a := 74) dX10_write_135 kf_RX10_7 (zlt hn rfl) sh_73 rfl (k48.1 _ _ _ (zlt hn rfl) p_73_0) ?_
      refine r_iload_n dX10_write_138 rfl ?_
      refine r_ialoadE dX10_write_139 (zlt hn rfl) sh_74 h40.1 h40.2 rfl ?_
      refine r_name (fun y51 e52 => ?_)
      have h53 := h50 y51 e52
      refine r_istore_n dX10_write_140 rfl rfl ?_
      refine r_goto (t := 45) dX10_write_141 rfl ?_
      exact r_mask [true, true, false, false, false, false] rfl (h53 (by rw [e52]; exact (k48.2.1 _ _)) k48)
    · have h54 := h41.2 c43
      refine r_aload_n dX10_write_102 rfl ?_
      refine r_aload_n dX10_write_103 rfl ?_
      refine r_getP (a := 74) dX10_write_104 kf_RX10_7 (zlt hn rfl) sh_73 rfl (k3.1 _ _ _ (zlt hn rfl) p_73_0) ?_
      refine r_iload_n dX10_write_107 rfl ?_
      refine r_ialoadE dX10_write_108 (zlt hn rfl) sh_74 h40.1 h40.2 rfl ?_
      refine r_iconst dX10_write_109 ?_
      refine n_callV (N := M_X10_childOf) (As := [iV (gI σ2 74 x1.toNat), iV 1]) (st := []) dX10_write_110 mk_X10_childOf km_RX10_272 kd_X10_childOf rfl (zlt hn rfl) sh_73 (q := (RX10, TX10, 52)) rfl rfl (zFits_rm d n n n (Nat.le_refl n)) (Nat.le_of_ble_eq_true rfl) rfl k3 h54 ?_
      rintro _ σ56 k57 ⟨v55, rfl, h58, h59⟩
      change Zm _ _ _ _ _ _ 113 _ [iV v55] _
      refine r_if_lt (t := 120) dX10_write_113 rfl h58  (fun c60 => ?_) (fun c61 => ?_)
      · have h62 := h59.1 c60
        refine r_iconst dX10_write_120 ?_
        refine r_istore dX10_write_121 rfl rfl ?_
        refine r_iload dX10_write_123 rfl ?_
        refine r_if_eq (t := 134) dX10_write_125 rfl (r32c rfl)  (fun _ => ?_) (fun c63 => absurd c63 (by decide))
        refine r_aload_n dX10_write_134 rfl ?_
        refine r_getP (a := 74) dX10_write_135 kf_RX10_7 (zlt hn rfl) sh_73 rfl (k57.1 _ _ _ (zlt hn rfl) p_73_0) ?_
        refine r_iload_n dX10_write_138 rfl ?_
        refine r_ialoadE dX10_write_139 (zlt hn rfl) sh_74 h40.1 h40.2 rfl ?_
        refine r_name (fun y64 e65 => ?_)
        have h66 := h62 y64 e65
        refine r_istore_n dX10_write_140 rfl rfl ?_
        refine r_goto (t := 45) dX10_write_141 rfl ?_
        exact r_mask [true, true, false, false, false, false] rfl (h66 (by rw [e65]; exact (k57.2.1 _ _)) k57)
      · have h67 := h59.2 c61
        refine r_iconst dX10_write_116 ?_
        refine r_goto (t := 121) dX10_write_117 rfl ?_
        refine r_istore dX10_write_121 rfl rfl ?_
        refine r_iload dX10_write_123 rfl ?_
        refine r_if_eq (t := 134) dX10_write_125 rfl (r32c rfl)  (fun c68 => absurd c68 (by decide)) (fun _ => ?_)
        refine r_aload_n dX10_write_128 rfl ?_
        refine r_bipush dX10_write_129 rfl ?_
        refine n_callV (N := M_X10_puts) (As := [iV 41]) (st := []) dX10_write_131 mk_X10_puts km_RX10_260 kd_X10_puts rfl (zlt hn rfl) sh_73 (q := (RX10, TX10, 52)) rfl rfl (zFits_rm d n n n (Nat.le_refl n)) (Nat.le_of_ble_eq_true rfl) rfl k57 h67 ?_
        rintro _ σ70 k71 ⟨rfl, h73⟩
        change Zm _ _ _ _ _ _ 134 _ [] _
        refine r_aload_n dX10_write_134 rfl ?_
        refine r_getP (a := 74) dX10_write_135 kf_RX10_7 (zlt hn rfl) sh_73 rfl (k71.1 _ _ _ (zlt hn rfl) p_73_0) ?_
        refine r_iload_n dX10_write_138 rfl ?_
        refine r_ialoadE dX10_write_139 (zlt hn rfl) sh_74 h40.1 h40.2 rfl ?_
        refine r_name (fun y74 e75 => ?_)
        have h76 := h73 y74 e75
        refine r_istore_n dX10_write_140 rfl rfl ?_
        refine r_goto (t := 45) dX10_write_141 rfl ?_
        exact r_mask [true, true, false, false, false, false] rfl (h76 (by rw [e75]; exact (k71.2.1 _ _)) k71)
/-! StoneRoomModel.octet -/
theorem dX10_octet_0 : decode M_X10_octet.2.1 0 = .ok (.iload_n 1, 1) := by decide +kernel
theorem dX10_octet_1 : decode M_X10_octet.2.1 1 = .ok (.ifCond .lt 24, 3) := by decide +kernel
theorem dX10_octet_4 : decode M_X10_octet.2.1 4 = .ok (.iload_n 1, 1) := by decide +kernel
theorem dX10_octet_5 : decode M_X10_octet.2.1 5 = .ok (.aload_n 0, 1) := by decide +kernel
theorem dX10_octet_6 : decode M_X10_octet.2.1 6 = .ok (.getfield 257, 3) := by decide +kernel
theorem dX10_octet_9 : decode M_X10_octet.2.1 9 = .ok (.if_icmp .ge 16, 3) := by decide +kernel
theorem dX10_octet_12 : decode M_X10_octet.2.1 12 = .ok (.aload_n 0, 1) := by decide +kernel
theorem dX10_octet_13 : decode M_X10_octet.2.1 13 = .ok (.getfield 68, 3) := by decide +kernel
theorem dX10_octet_16 : decode M_X10_octet.2.1 16 = .ok (.iload_n 1, 1) := by decide +kernel
theorem dX10_octet_17 : decode M_X10_octet.2.1 17 = .ok (.baload, 1) := by decide +kernel
theorem dX10_octet_18 : decode M_X10_octet.2.1 18 = .ok (.sipush 255, 3) := by decide +kernel
theorem dX10_octet_21 : decode M_X10_octet.2.1 21 = .ok (.iand, 1) := by decide +kernel
theorem dX10_octet_22 : decode M_X10_octet.2.1 22 = .ok (.goto 4, 3) := by decide +kernel
theorem dX10_octet_25 : decode M_X10_octet.2.1 25 = .ok (.iconst (-1), 1) := by decide +kernel
theorem dX10_octet_26 : decode M_X10_octet.2.1 26 = .ok (.ireturn, 1) := by decide +kernel
theorem w_X10_octet {X : ZX} {d n : Nat} {P : Int → ZSto → Prop} {x1 : Int} {σ : ZSto} (hn : 104 ≤ n)  (hx1 : R32 x1)
    (h : (x1 < 0 → P ((-1)) σ) ∧ (¬ (x1 < 0) → (gI σ 73 31 ≤ x1 → P ((-1)) σ) ∧ (¬ (gI σ 73 31 ≤ x1) → (0 ≤ x1 ∧ x1 < 9000) ∧ P (andI (gI σ 90 x1.toNat) 255) σ))) :
    ZkI X M_X10_octet (d + 1) n [.ref (zB X + 73), iV x1] σ P := by
  refine zk_of (ls := [some (.ref (zB X + 73)), some (iV x1)]) pl_RX10 (Nat.le_of_ble_eq_true rfl) rfl (fun k0 => ?_)
  unfold Zn
  refine r_iload_n dX10_octet_0 rfl ?_
  refine r_if_lt (t := 25) dX10_octet_1 rfl hx1  (fun c1 => ?_) (fun c2 => ?_)
  · have h3 := h.1 c1
    refine r_iconst dX10_octet_25 ?_
    exact r_ireturn dX10_octet_26 rfl ⟨k0, _, rfl, (r32c rfl), h3⟩
  · have h4 := h.2 c2
    refine r_iload_n dX10_octet_4 rfl ?_
    refine r_aload_n dX10_octet_5 rfl ?_
    refine r_getI dX10_octet_6 kf_RX10_257 (zlt hn rfl) sh_73 (Or.inl rfl) rfl ?_
    refine r_icmp_ge (t := 25) dX10_octet_9 rfl hx1 (k0.2.1 _ _) (fun c5 => ?_) (fun c6 => ?_)
    · have h7 := h4.1 c5
      refine r_iconst dX10_octet_25 ?_
      exact r_ireturn dX10_octet_26 rfl ⟨k0, _, rfl, (r32c rfl), h7⟩
    · have h8 := h4.2 c6
      refine r_aload_n dX10_octet_12 rfl ?_
      refine r_getP (a := 90) dX10_octet_13 kf_RX10_68 (zlt hn rfl) sh_73 rfl (k0.1 _ _ _ (zlt hn rfl) p_73_30) ?_
      refine r_iload_n dX10_octet_16 rfl ?_
      obtain ⟨h9, h10⟩ := h8
      refine r_baloadE dX10_octet_17 (zlt hn rfl) sh_90 h9.1 h9.2 rfl ?_
      refine r_sipush dX10_octet_18 rfl ?_
      refine r_iand dX10_octet_21 ?_
      refine r_goto (t := 26) dX10_octet_22 rfl ?_
      exact r_ireturn dX10_octet_26 rfl ⟨k0, _, rfl, (r32_and _ _), h10⟩
/-! StoneRoomModel.clears -/
theorem dX10_clears_0 : decode M_X10_clears.2.1 0 = .ok (.iconst 0, 1) := by decide +kernel
theorem dX10_clears_1 : decode M_X10_clears.2.1 1 = .ok (.istore_n 1, 1) := by decide +kernel
theorem dX10_clears_2 : decode M_X10_clears.2.1 2 = .ok (.iload_n 1, 1) := by decide +kernel
theorem dX10_clears_3 : decode M_X10_clears.2.1 3 = .ok (.bipush 81, 2) := by decide +kernel
theorem dX10_clears_5 : decode M_X10_clears.2.1 5 = .ok (.if_icmp .ge 16, 3) := by decide +kernel
theorem dX10_clears_8 : decode M_X10_clears.2.1 8 = .ok (.aload_n 0, 1) := by decide +kernel
theorem dX10_clears_9 : decode M_X10_clears.2.1 9 = .ok (.getfield 74, 3) := by decide +kernel
theorem dX10_clears_12 : decode M_X10_clears.2.1 12 = .ok (.iload_n 1, 1) := by decide +kernel
theorem dX10_clears_13 : decode M_X10_clears.2.1 13 = .ok (.iconst 0, 1) := by decide +kernel
theorem dX10_clears_14 : decode M_X10_clears.2.1 14 = .ok (.bastore, 1) := by decide +kernel
theorem dX10_clears_15 : decode M_X10_clears.2.1 15 = .ok (.iinc 1 1, 3) := by decide +kernel
theorem dX10_clears_18 : decode M_X10_clears.2.1 18 = .ok (.goto (-16), 3) := by decide +kernel
theorem dX10_clears_21 : decode M_X10_clears.2.1 21 = .ok (.return_, 1) := by decide +kernel
def L_X10_clears_2 (X : ZX) (d n : Nat) (P : Option Value → ZSto → Prop) (x1 : Int) (σ : ZSto) : Prop := R32 x1 → ZOk n σ → Zn X M_X10_clears d n P 2 [some (.ref (zB X + 73)), some (iV x1)] [] σ
theorem w_X10_clears {X : ZX} {d n : Nat} {P : ZSto → Prop}  {σ : ZSto} (hn : 104 ≤ n)  
    (h : L_X10_clears_2 X d n (zpV P) 0 σ) :
    ZkV X M_X10_clears (d + 1) n [.ref (zB X + 73)] σ P := by
  refine zk_of (ls := [some (.ref (zB X + 73)), none]) pl_RX10 (Nat.le_of_ble_eq_true rfl) rfl (fun k0 => ?_)
  unfold Zn
  refine r_iconst dX10_clears_0 ?_
  refine r_istore_n dX10_clears_1 rfl rfl ?_
  exact r_mask [true, true] rfl (h (r32c rfl) k0)
theorem b_X10_clears_2 {X : ZX} {d n : Nat} {P : ZSto → Prop} {x1 : Int} {σ : ZSto} (hn : 104 ≤ n) 
    (h : (81 ≤ x1 → P σ) ∧ (¬ (81 ≤ x1) → (0 ≤ x1 ∧ x1 < 81) ∧ R32 (x1 + 1) ∧ L_X10_clears_2 X d n (zpV P) (x1 + 1) (sI σ 92 x1.toNat 0))) :
    L_X10_clears_2 X d n (zpV P) x1 σ := by
  intro hx1 k0
  unfold Zn
  refine r_iload_n dX10_clears_2 rfl ?_
  refine r_bipush dX10_clears_3 rfl ?_
  refine r_icmp_ge (t := 21) dX10_clears_5 rfl hx1 (r32c rfl) (fun c1 => ?_) (fun c2 => ?_)
  · have h3 := h.1 c1
    exact r_return dX10_clears_21 rfl ⟨k0, rfl, h3⟩
  · have h4 := h.2 c2
    refine r_aload_n dX10_clears_8 rfl ?_
    refine r_getP (a := 92) dX10_clears_9 kf_RX10_74 (zlt hn rfl) sh_73 rfl (k0.1 _ _ _ (zlt hn rfl) p_73_33) ?_
    refine r_iload_n dX10_clears_12 rfl ?_
    refine r_iconst dX10_clears_13 ?_
    obtain ⟨h5, h6⟩ := h4
    refine r_zastore dX10_clears_14 (zlt hn rfl) sh_92 h5.1 h5.2 (Or.inl rfl) ?_
    have k7 := zok_z (i := x1.toNat) (x := 0) k0 sh_92 (Or.inl rfl)
    refine r_iinc dX10_clears_15 rfl rfl rfl ?_
    refine r_goto (t := 2) dX10_clears_18 rfl ?_
    obtain ⟨h8, h9⟩ := h6
    exact r_mask [true, true] rfl (h9 h8 k7)
/-! StoneRoomModel.shows -/
theorem dX10_shows_0 : decode M_X10_shows.2.1 0 = .ok (.aload_n 0, 1) := by decide +kernel
theorem dX10_shows_1 : decode M_X10_shows.2.1 1 = .ok (.aload_n 0, 1) := by decide +kernel
theorem dX10_shows_2 : decode M_X10_shows.2.1 2 = .ok (.getfield 36, 3) := by decide +kernel
theorem dX10_shows_5 : decode M_X10_shows.2.1 5 = .ok (.aload_n 0, 1) := by decide +kernel
theorem dX10_shows_6 : decode M_X10_shows.2.1 6 = .ok (.getfield 170, 3) := by decide +kernel
theorem dX10_shows_9 : decode M_X10_shows.2.1 9 = .ok (.iaload, 1) := by decide +kernel
theorem dX10_shows_10 : decode M_X10_shows.2.1 10 = .ok (.putfield 139, 3) := by decide +kernel
theorem dX10_shows_13 : decode M_X10_shows.2.1 13 = .ok (.aload_n 0, 1) := by decide +kernel
theorem dX10_shows_14 : decode M_X10_shows.2.1 14 = .ok (.aload_n 0, 1) := by decide +kernel
theorem dX10_shows_15 : decode M_X10_shows.2.1 15 = .ok (.getfield 173, 3) := by decide +kernel
theorem dX10_shows_18 : decode M_X10_shows.2.1 18 = .ok (.invokevirtual 133, 3) := by decide +kernel
theorem dX10_shows_21 : decode M_X10_shows.2.1 21 = .ok (.iconst 1, 1) := by decide +kernel
theorem dX10_shows_22 : decode M_X10_shows.2.1 22 = .ok (.ireturn, 1) := by decide +kernel
theorem w_X10_shows {X : ZX} {d n : Nat} {P : Int → ZSto → Prop}  {σ : ZSto} (hn : 104 ≤ n)  
    (h : (0 ≤ gI σ 73 10 ∧ gI σ 73 10 < 2) ∧ ZkV X M_X10_load d n [.ref (zB X + 73), iV (gI σ 73 11)] (sI σ 73 13 (gI σ 82 ((gI σ 73 10).toNat))) (fun σ5 => P 1 σ5)) :
    ZkZ X M_X10_shows (d + 1) n [.ref (zB X + 73)] σ P := by
  refine zk_of (ls := [some (.ref (zB X + 73))]) pl_RX10 (Nat.le_of_ble_eq_true rfl) rfl (fun k0 => ?_)
  unfold Zn
  refine r_aload_n dX10_shows_0 rfl ?_
  refine r_aload_n dX10_shows_1 rfl ?_
  refine r_getP (a := 82) dX10_shows_2 kf_RX10_36 (zlt hn rfl) sh_73 rfl (k0.1 _ _ _ (zlt hn rfl) p_73_8) ?_
  refine r_aload_n dX10_shows_5 rfl ?_
  refine r_getI dX10_shows_6 kf_RX10_170 (zlt hn rfl) sh_73 (Or.inl rfl) rfl ?_
  obtain ⟨h1, h2⟩ := h
  refine r_ialoadE dX10_shows_9 (zlt hn rfl) sh_82 h1.1 h1.2 rfl ?_
  refine r_putI dX10_shows_10 kf_RX10_139 (zlt hn rfl) sh_73 rfl (Or.inl rfl) ?_
  have k3 := zok_o (i := 13) (x := gI σ 82 ((gI σ 73 10).toNat)) k0 sh_73 (k0.2.1 _ _)
  refine r_aload_n dX10_shows_13 rfl ?_
  refine r_aload_n dX10_shows_14 rfl ?_
  refine r_getI dX10_shows_15 kf_RX10_173 (zlt hn rfl) sh_73 (Or.inl rfl) (gI_f (by decide)) ?_
  refine n_callV (N := M_X10_load) (As := [iV (gI σ 73 11)]) (st := []) dX10_shows_18 mk_X10_load km_RX10_133 kd_X10_load rfl (zlt hn rfl) sh_73 (q := (RX10, TX10, 52)) rfl rfl (zFits_rm d n n n (Nat.le_refl n)) (Nat.le_of_ble_eq_true rfl) rfl k3 h2 ?_
  rintro _ σ5 k6 ⟨rfl, h8⟩
  change Zm _ _ _ _ _ _ 21 _ [] _
  refine r_iconst dX10_shows_21 ?_
  exact r_zreturn dX10_shows_22 rfl (Or.inr rfl) ⟨k6, _, rfl, (Or.inr rfl), h8⟩
/-! StoneRoomModel.isPoint -/
theorem dX10_isPoint_0 : decode M_X10_isPoint.2.1 0 = .ok (.iload_n 1, 1) := by decide +kernel
theorem dX10_isPoint_1 : decode M_X10_isPoint.2.1 1 = .ok (.ifCond .lt 20, 3) := by decide +kernel
theorem dX10_isPoint_4 : decode M_X10_isPoint.2.1 4 = .ok (.iload_n 1, 1) := by decide +kernel
theorem dX10_isPoint_5 : decode M_X10_isPoint.2.1 5 = .ok (.aload_n 0, 1) := by decide +kernel
theorem dX10_isPoint_6 : decode M_X10_isPoint.2.1 6 = .ok (.getfield 139, 3) := by decide +kernel
theorem dX10_isPoint_9 : decode M_X10_isPoint.2.1 9 = .ok (.aload_n 0, 1) := by decide +kernel
theorem dX10_isPoint_10 : decode M_X10_isPoint.2.1 10 = .ok (.getfield 139, 3) := by decide +kernel
theorem dX10_isPoint_13 : decode M_X10_isPoint.2.1 13 = .ok (.imul, 1) := by decide +kernel
theorem dX10_isPoint_14 : decode M_X10_isPoint.2.1 14 = .ok (.if_icmp .ge 7, 3) := by decide +kernel
theorem dX10_isPoint_17 : decode M_X10_isPoint.2.1 17 = .ok (.iconst 1, 1) := by decide +kernel
theorem dX10_isPoint_18 : decode M_X10_isPoint.2.1 18 = .ok (.goto 4, 3) := by decide +kernel
theorem dX10_isPoint_21 : decode M_X10_isPoint.2.1 21 = .ok (.iconst 0, 1) := by decide +kernel
theorem dX10_isPoint_22 : decode M_X10_isPoint.2.1 22 = .ok (.ireturn, 1) := by decide +kernel
theorem w_X10_isPoint {X : ZX} {d n : Nat} {P : Int → ZSto → Prop} {x1 : Int} {σ : ZSto} (hn : 104 ≤ n)  (hx1 : R32 x1)
    (h : (x1 < 0 → P 0 σ) ∧ (¬ (x1 < 0) → R32 ((gI σ 73 13) * (gI σ 73 13)) ∧ ((gI σ 73 13) * (gI σ 73 13) ≤ x1 → P 0 σ) ∧ (¬ ((gI σ 73 13) * (gI σ 73 13) ≤ x1) → P 1 σ))) :
    ZkZ X M_X10_isPoint (d + 1) n [.ref (zB X + 73), iV x1] σ P := by
  refine zk_of (ls := [some (.ref (zB X + 73)), some (iV x1)]) pl_RX10 (Nat.le_of_ble_eq_true rfl) rfl (fun k0 => ?_)
  unfold Zn
  refine r_iload_n dX10_isPoint_0 rfl ?_
  refine r_if_lt (t := 21) dX10_isPoint_1 rfl hx1  (fun c1 => ?_) (fun c2 => ?_)
  · have h3 := h.1 c1
    refine r_iconst dX10_isPoint_21 ?_
    exact r_zreturn dX10_isPoint_22 rfl (Or.inl rfl) ⟨k0, _, rfl, (Or.inl rfl), h3⟩
  · have h4 := h.2 c2
    refine r_iload_n dX10_isPoint_4 rfl ?_
    refine r_aload_n dX10_isPoint_5 rfl ?_
    refine r_getI dX10_isPoint_6 kf_RX10_139 (zlt hn rfl) sh_73 (Or.inl rfl) rfl ?_
    refine r_aload_n dX10_isPoint_9 rfl ?_
    refine r_getI dX10_isPoint_10 kf_RX10_139 (zlt hn rfl) sh_73 (Or.inl rfl) rfl ?_
    refine r_imul dX10_isPoint_13 ?_
    obtain ⟨h5, h6⟩ := h4
    refine r_icmp_ge (t := 21) dX10_isPoint_14 rfl hx1 h5 (fun c7 => ?_) (fun c8 => ?_)
    · have h9 := h6.1 c7
      refine r_iconst dX10_isPoint_21 ?_
      exact r_zreturn dX10_isPoint_22 rfl (Or.inl rfl) ⟨k0, _, rfl, (Or.inl rfl), h9⟩
    · have h10 := h6.2 c8
      refine r_iconst dX10_isPoint_17 ?_
      refine r_goto (t := 22) dX10_isPoint_18 rfl ?_
      exact r_zreturn dX10_isPoint_22 rfl (Or.inr rfl) ⟨k0, _, rfl, (Or.inr rfl), h10⟩
/-! StoneRoomModel.isStone -/
theorem dX10_isStone_0 : decode M_X10_isStone.2.1 0 = .ok (.aload_n 0, 1) := by decide +kernel
theorem dX10_isStone_1 : decode M_X10_isStone.2.1 1 = .ok (.invokevirtual 275, 3) := by decide +kernel
theorem dX10_isStone_4 : decode M_X10_isStone.2.1 4 = .ok (.ifCond .eq 24, 3) := by decide +kernel
theorem dX10_isStone_7 : decode M_X10_isStone.2.1 7 = .ok (.aload_n 0, 1) := by decide +kernel
theorem dX10_isStone_8 : decode M_X10_isStone.2.1 8 = .ok (.iload_n 1, 1) := by decide +kernel
theorem dX10_isStone_9 : decode M_X10_isStone.2.1 9 = .ok (.invokevirtual 278, 3) := by decide +kernel
theorem dX10_isStone_12 : decode M_X10_isStone.2.1 12 = .ok (.ifCond .eq 16, 3) := by decide +kernel
theorem dX10_isStone_15 : decode M_X10_isStone.2.1 15 = .ok (.aload_n 0, 1) := by decide +kernel
theorem dX10_isStone_16 : decode M_X10_isStone.2.1 16 = .ok (.getfield 46, 3) := by decide +kernel
theorem dX10_isStone_19 : decode M_X10_isStone.2.1 19 = .ok (.iload_n 1, 1) := by decide +kernel
theorem dX10_isStone_20 : decode M_X10_isStone.2.1 20 = .ok (.baload, 1) := by decide +kernel
theorem dX10_isStone_21 : decode M_X10_isStone.2.1 21 = .ok (.ifCond .eq 7, 3) := by decide +kernel
theorem dX10_isStone_24 : decode M_X10_isStone.2.1 24 = .ok (.iconst 1, 1) := by decide +kernel
theorem dX10_isStone_25 : decode M_X10_isStone.2.1 25 = .ok (.goto 4, 3) := by decide +kernel
theorem dX10_isStone_28 : decode M_X10_isStone.2.1 28 = .ok (.iconst 0, 1) := by decide +kernel
theorem dX10_isStone_29 : decode M_X10_isStone.2.1 29 = .ok (.ireturn, 1) := by decide +kernel
theorem w_X10_isStone {X : ZX} {d n : Nat} {P : Int → ZSto → Prop} {x1 : Int} {σ : ZSto} (hn : 104 ≤ n)  (hx1 : R32 x1)
    (h : ZkZ X M_X10_shows d n [.ref (zB X + 73)] σ (fun v1 σ2 => (v1 = 0 → P 0 σ2) ∧ (¬ (v1 = 0) → ZkZ X M_X10_isPoint d n [.ref (zB X + 73), iV x1] σ2 (fun v10 σ11 => (v10 = 0 → P 0 σ11) ∧ (¬ (v10 = 0) → (0 ≤ x1 ∧ x1 < 81) ∧ (gI σ11 84 x1.toNat = 0 → P 0 σ11) ∧ (¬ (gI σ11 84 x1.toNat = 0) → P 1 σ11)))))) :
    ZkZ X M_X10_isStone (d + 1) n [.ref (zB X + 73), iV x1] σ P := by
  refine zk_of (ls := [some (.ref (zB X + 73)), some (iV x1)]) pl_RX10 (Nat.le_of_ble_eq_true rfl) rfl (fun k0 => ?_)
  unfold Zn
  refine r_aload_n dX10_isStone_0 rfl ?_
  refine n_callV (N := M_X10_shows) (As := []) (st := []) dX10_isStone_1 mk_X10_shows km_RX10_275 kd_X10_shows rfl (zlt hn rfl) sh_73 (q := (RX10, TX10, 52)) rfl rfl (zFits_rm d n n n (Nat.le_refl n)) (Nat.le_of_ble_eq_true rfl) rfl k0 h ?_
  rintro _ σ2 k3 ⟨v1, rfl, h4, h5⟩
  change Zm _ _ _ _ _ _ 4 _ [iV v1] _
  refine r_if_eq (t := 28) dX10_isStone_4 rfl (r32_z h4)  (fun c6 => ?_) (fun c7 => ?_)
  · have h8 := h5.1 c6
    refine r_iconst dX10_isStone_28 ?_
    exact r_zreturn dX10_isStone_29 rfl (Or.inl rfl) ⟨k3, _, rfl, (Or.inl rfl), h8⟩
  · have h9 := h5.2 c7
    refine r_aload_n dX10_isStone_7 rfl ?_
    refine r_iload_n dX10_isStone_8 rfl ?_
    refine n_callV (N := M_X10_isPoint) (As := [iV x1]) (st := []) dX10_isStone_9 mk_X10_isPoint km_RX10_278 kd_X10_isPoint rfl (zlt hn rfl) sh_73 (q := (RX10, TX10, 52)) rfl rfl (zFits_rm d n n n (Nat.le_refl n)) (Nat.le_of_ble_eq_true rfl) rfl k3 h9 ?_
    rintro _ σ11 k12 ⟨v10, rfl, h13, h14⟩
    change Zm _ _ _ _ _ _ 12 _ [iV v10] _
    refine r_if_eq (t := 28) dX10_isStone_12 rfl (r32_z h13)  (fun c15 => ?_) (fun c16 => ?_)
    · have h17 := h14.1 c15
      refine r_iconst dX10_isStone_28 ?_
      exact r_zreturn dX10_isStone_29 rfl (Or.inl rfl) ⟨k12, _, rfl, (Or.inl rfl), h17⟩
    · have h18 := h14.2 c16
      refine r_aload_n dX10_isStone_15 rfl ?_
      refine r_getP (a := 84) dX10_isStone_16 kf_RX10_46 (zlt hn rfl) sh_73 rfl (k12.1 _ _ _ (zlt hn rfl) p_73_14) ?_
      refine r_iload_n dX10_isStone_19 rfl ?_
      obtain ⟨h19, h20⟩ := h18
      refine r_baloadE dX10_isStone_20 (zlt hn rfl) sh_84 h19.1 h19.2 rfl ?_
      refine r_if_eq (t := 28) dX10_isStone_21 rfl (k12.2.1 _ _)  (fun c21 => ?_) (fun c22 => ?_)
      · have h23 := h20.1 c21
        refine r_iconst dX10_isStone_28 ?_
        exact r_zreturn dX10_isStone_29 rfl (Or.inl rfl) ⟨k12, _, rfl, (Or.inl rfl), h23⟩
      · have h24 := h20.2 c22
        refine r_iconst dX10_isStone_24 ?_
        refine r_goto (t := 29) dX10_isStone_25 rfl ?_
        exact r_zreturn dX10_isStone_29 rfl (Or.inr rfl) ⟨k12, _, rfl, (Or.inr rfl), h24⟩
/-! StoneRoomModel.at -/
theorem dX10_at_0 : decode M_X10_at.2.1 0 = .ok (.aload_n 0, 1) := by decide +kernel
theorem dX10_at_1 : decode M_X10_at.2.1 1 = .ok (.invokevirtual 275, 3) := by decide +kernel
theorem dX10_at_4 : decode M_X10_at.2.1 4 = .ok (.ifCond .eq 20, 3) := by decide +kernel
theorem dX10_at_7 : decode M_X10_at.2.1 7 = .ok (.aload_n 0, 1) := by decide +kernel
theorem dX10_at_8 : decode M_X10_at.2.1 8 = .ok (.iload_n 1, 1) := by decide +kernel
theorem dX10_at_9 : decode M_X10_at.2.1 9 = .ok (.invokevirtual 278, 3) := by decide +kernel
theorem dX10_at_12 : decode M_X10_at.2.1 12 = .ok (.ifCond .eq 12, 3) := by decide +kernel
theorem dX10_at_15 : decode M_X10_at.2.1 15 = .ok (.aload_n 0, 1) := by decide +kernel
theorem dX10_at_16 : decode M_X10_at.2.1 16 = .ok (.getfield 46, 3) := by decide +kernel
theorem dX10_at_19 : decode M_X10_at.2.1 19 = .ok (.iload_n 1, 1) := by decide +kernel
theorem dX10_at_20 : decode M_X10_at.2.1 20 = .ok (.baload, 1) := by decide +kernel
theorem dX10_at_21 : decode M_X10_at.2.1 21 = .ok (.goto 4, 3) := by decide +kernel
theorem dX10_at_24 : decode M_X10_at.2.1 24 = .ok (.iconst (-1), 1) := by decide +kernel
theorem dX10_at_25 : decode M_X10_at.2.1 25 = .ok (.ireturn, 1) := by decide +kernel
theorem w_X10_at {X : ZX} {d n : Nat} {P : Int → ZSto → Prop} {x1 : Int} {σ : ZSto} (hn : 104 ≤ n)  (hx1 : R32 x1)
    (h : ZkZ X M_X10_shows d n [.ref (zB X + 73)] σ (fun v1 σ2 => (v1 = 0 → P ((-1)) σ2) ∧ (¬ (v1 = 0) → ZkZ X M_X10_isPoint d n [.ref (zB X + 73), iV x1] σ2 (fun v10 σ11 => (v10 = 0 → P ((-1)) σ11) ∧ (¬ (v10 = 0) → (0 ≤ x1 ∧ x1 < 81) ∧ P (gI σ11 84 x1.toNat) σ11))))) :
    ZkI X M_X10_at (d + 1) n [.ref (zB X + 73), iV x1] σ P := by
  refine zk_of (ls := [some (.ref (zB X + 73)), some (iV x1)]) pl_RX10 (Nat.le_of_ble_eq_true rfl) rfl (fun k0 => ?_)
  unfold Zn
  refine r_aload_n dX10_at_0 rfl ?_
  refine n_callV (N := M_X10_shows) (As := []) (st := []) dX10_at_1 mk_X10_shows km_RX10_275 kd_X10_shows rfl (zlt hn rfl) sh_73 (q := (RX10, TX10, 52)) rfl rfl (zFits_rm d n n n (Nat.le_refl n)) (Nat.le_of_ble_eq_true rfl) rfl k0 h ?_
  rintro _ σ2 k3 ⟨v1, rfl, h4, h5⟩
  change Zm _ _ _ _ _ _ 4 _ [iV v1] _
  refine r_if_eq (t := 24) dX10_at_4 rfl (r32_z h4)  (fun c6 => ?_) (fun c7 => ?_)
  · have h8 := h5.1 c6
    refine r_iconst dX10_at_24 ?_
    exact r_ireturn dX10_at_25 rfl ⟨k3, _, rfl, (r32c rfl), h8⟩
  · have h9 := h5.2 c7
    refine r_aload_n dX10_at_7 rfl ?_
    refine r_iload_n dX10_at_8 rfl ?_
    refine n_callV (N := M_X10_isPoint) (As := [iV x1]) (st := []) dX10_at_9 mk_X10_isPoint km_RX10_278 kd_X10_isPoint rfl (zlt hn rfl) sh_73 (q := (RX10, TX10, 52)) rfl rfl (zFits_rm d n n n (Nat.le_refl n)) (Nat.le_of_ble_eq_true rfl) rfl k3 h9 ?_
    rintro _ σ11 k12 ⟨v10, rfl, h13, h14⟩
    change Zm _ _ _ _ _ _ 12 _ [iV v10] _
    refine r_if_eq (t := 24) dX10_at_12 rfl (r32_z h13)  (fun c15 => ?_) (fun c16 => ?_)
    · have h17 := h14.1 c15
      refine r_iconst dX10_at_24 ?_
      exact r_ireturn dX10_at_25 rfl ⟨k12, _, rfl, (r32c rfl), h17⟩
    · have h18 := h14.2 c16
      refine r_aload_n dX10_at_15 rfl ?_
      refine r_getP (a := 84) dX10_at_16 kf_RX10_46 (zlt hn rfl) sh_73 rfl (k12.1 _ _ _ (zlt hn rfl) p_73_14) ?_
      refine r_iload_n dX10_at_19 rfl ?_
      obtain ⟨h19, h20⟩ := h18
      refine r_baloadE dX10_at_20 (zlt hn rfl) sh_84 h19.1 h19.2 rfl ?_
      refine r_goto (t := 25) dX10_at_21 rfl ?_
      exact r_ireturn dX10_at_25 rfl ⟨k12, _, rfl, (k12.2.1 _ _), h20⟩
/-! StoneRoomModel.head -/
theorem dX10_head_0 : decode M_X10_head.2.1 0 = .ok (.iconst 0, 1) := by decide +kernel
theorem dX10_head_1 : decode M_X10_head.2.1 1 = .ok (.istore_n 1, 1) := by decide +kernel
theorem dX10_head_2 : decode M_X10_head.2.1 2 = .ok (.aload_n 0, 1) := by decide +kernel
theorem dX10_head_3 : decode M_X10_head.2.1 3 = .ok (.getfield 49, 3) := by decide +kernel
theorem dX10_head_6 : decode M_X10_head.2.1 6 = .ok (.iload_n 1, 1) := by decide +kernel
theorem dX10_head_7 : decode M_X10_head.2.1 7 = .ok (.baload, 1) := by decide +kernel
theorem dX10_head_8 : decode M_X10_head.2.1 8 = .ok (.ifCond .ne 9, 3) := by decide +kernel
theorem dX10_head_11 : decode M_X10_head.2.1 11 = .ok (.iinc 1 1, 3) := by decide +kernel
theorem dX10_head_14 : decode M_X10_head.2.1 14 = .ok (.goto (-12), 3) := by decide +kernel
theorem dX10_head_17 : decode M_X10_head.2.1 17 = .ok (.iload_n 1, 1) := by decide +kernel
theorem dX10_head_18 : decode M_X10_head.2.1 18 = .ok (.ireturn, 1) := by decide +kernel
def L_X10_head_2 (X : ZX) (d n : Nat) (P : Option Value → ZSto → Prop) (x1 : Int) (σ : ZSto) : Prop := R32 x1 → ZOk n σ → Zn X M_X10_head d n P 2 [some (.ref (zB X + 73)), some (iV x1)] [] σ
theorem w_X10_head {X : ZX} {d n : Nat} {P : Int → ZSto → Prop}  {σ : ZSto} (hn : 104 ≤ n)  
    (h : L_X10_head_2 X d n (zpI P) 0 σ) :
    ZkI X M_X10_head (d + 1) n [.ref (zB X + 73)] σ P := by
  refine zk_of (ls := [some (.ref (zB X + 73)), none]) pl_RX10 (Nat.le_of_ble_eq_true rfl) rfl (fun k0 => ?_)
  unfold Zn
  refine r_iconst dX10_head_0 ?_
  refine r_istore_n dX10_head_1 rfl rfl ?_
  exact r_mask [true, true] rfl (h (r32c rfl) k0)
theorem b_X10_head_2 {X : ZX} {d n : Nat} {P : Int → ZSto → Prop} {x1 : Int} {σ : ZSto} (hn : 104 ≤ n) 
    (h : (0 ≤ x1 ∧ x1 < 81) ∧ (¬ gI σ 85 x1.toNat = 0 → P x1 σ) ∧ (gI σ 85 x1.toNat = 0 → R32 (x1 + 1) ∧ L_X10_head_2 X d n (zpI P) (x1 + 1) σ)) :
    L_X10_head_2 X d n (zpI P) x1 σ := by
  intro hx1 k0
  unfold Zn
  refine r_aload_n dX10_head_2 rfl ?_
  refine r_getP (a := 85) dX10_head_3 kf_RX10_49 (zlt hn rfl) sh_73 rfl (k0.1 _ _ _ (zlt hn rfl) p_73_15) ?_
  refine r_iload_n dX10_head_6 rfl ?_
  obtain ⟨h1, h2⟩ := h
  refine r_zaloadE dX10_head_7 (zlt hn rfl) sh_85 h1.1 h1.2 rfl ?_
  refine r_if_ne (t := 17) dX10_head_8 rfl (k0.2.1 _ _)  (fun c3 => ?_) (fun c4 => ?_)
  · have h5 := h2.1 c3
    refine r_iload_n dX10_head_17 rfl ?_
    exact r_ireturn dX10_head_18 rfl ⟨k0, _, rfl, hx1, h5⟩
  · have h6 := h2.2 c4
    refine r_iinc dX10_head_11 rfl rfl rfl ?_
    refine r_goto (t := 2) dX10_head_14 rfl ?_
    obtain ⟨h7, h8⟩ := h6
    exact r_mask [true, true] rfl (h8 h7 k0)
/-! StoneRoomModel.stones -/
theorem dX10_stones_0 : decode M_X10_stones.2.1 0 = .ok (.iconst 0, 1) := by decide +kernel
theorem dX10_stones_1 : decode M_X10_stones.2.1 1 = .ok (.istore_n 1, 1) := by decide +kernel
theorem dX10_stones_2 : decode M_X10_stones.2.1 2 = .ok (.iconst 0, 1) := by decide +kernel
theorem dX10_stones_3 : decode M_X10_stones.2.1 3 = .ok (.istore_n 2, 1) := by decide +kernel
theorem dX10_stones_4 : decode M_X10_stones.2.1 4 = .ok (.iload_n 2, 1) := by decide +kernel
theorem dX10_stones_5 : decode M_X10_stones.2.1 5 = .ok (.bipush 81, 2) := by decide +kernel
theorem dX10_stones_7 : decode M_X10_stones.2.1 7 = .ok (.if_icmp .ge 26, 3) := by decide +kernel
theorem dX10_stones_10 : decode M_X10_stones.2.1 10 = .ok (.iload_n 1, 1) := by decide +kernel
theorem dX10_stones_11 : decode M_X10_stones.2.1 11 = .ok (.aload_n 0, 1) := by decide +kernel
theorem dX10_stones_12 : decode M_X10_stones.2.1 12 = .ok (.getfield 49, 3) := by decide +kernel
theorem dX10_stones_15 : decode M_X10_stones.2.1 15 = .ok (.iload_n 2, 1) := by decide +kernel
theorem dX10_stones_16 : decode M_X10_stones.2.1 16 = .ok (.baload, 1) := by decide +kernel
theorem dX10_stones_17 : decode M_X10_stones.2.1 17 = .ok (.ifCond .eq 7, 3) := by decide +kernel
theorem dX10_stones_20 : decode M_X10_stones.2.1 20 = .ok (.iconst 1, 1) := by decide +kernel
theorem dX10_stones_21 : decode M_X10_stones.2.1 21 = .ok (.goto 4, 3) := by decide +kernel
theorem dX10_stones_24 : decode M_X10_stones.2.1 24 = .ok (.iconst 0, 1) := by decide +kernel
theorem dX10_stones_25 : decode M_X10_stones.2.1 25 = .ok (.iadd, 1) := by decide +kernel
theorem dX10_stones_26 : decode M_X10_stones.2.1 26 = .ok (.istore_n 1, 1) := by decide +kernel
theorem dX10_stones_27 : decode M_X10_stones.2.1 27 = .ok (.iinc 2 1, 3) := by decide +kernel
theorem dX10_stones_30 : decode M_X10_stones.2.1 30 = .ok (.goto (-26), 3) := by decide +kernel
theorem dX10_stones_33 : decode M_X10_stones.2.1 33 = .ok (.iload_n 1, 1) := by decide +kernel
theorem dX10_stones_34 : decode M_X10_stones.2.1 34 = .ok (.ireturn, 1) := by decide +kernel
def L_X10_stones_4 (X : ZX) (d n : Nat) (P : Option Value → ZSto → Prop) (x1 : Int) (x2 : Int) (σ : ZSto) : Prop := R32 x1 → R32 x2 → ZOk n σ → Zn X M_X10_stones d n P 4 [some (.ref (zB X + 73)), some (iV x1), some (iV x2)] [] σ
theorem w_X10_stones {X : ZX} {d n : Nat} {P : Int → ZSto → Prop}  {σ : ZSto} (hn : 104 ≤ n)  
    (h : L_X10_stones_4 X d n (zpI P) 0 0 σ) :
    ZkI X M_X10_stones (d + 1) n [.ref (zB X + 73)] σ P := by
  refine zk_of (ls := [some (.ref (zB X + 73)), none, none]) pl_RX10 (Nat.le_of_ble_eq_true rfl) rfl (fun k0 => ?_)
  unfold Zn
  refine r_iconst dX10_stones_0 ?_
  refine r_istore_n dX10_stones_1 rfl rfl ?_
  refine r_iconst dX10_stones_2 ?_
  refine r_istore_n dX10_stones_3 rfl rfl ?_
  exact r_mask [true, true, true] rfl (h (r32c rfl) (r32c rfl) k0)
theorem b_X10_stones_4 {X : ZX} {d n : Nat} {P : Int → ZSto → Prop} {x1 : Int} {x2 : Int} {σ : ZSto} (hn : 104 ≤ n) 
    (h : (81 ≤ x2 → P x1 σ) ∧ (¬ (81 ≤ x2) → (0 ≤ x2 ∧ x2 < 81) ∧ (gI σ 85 x2.toNat = 0 → R32 (x1 + 0) ∧ R32 (x2 + 1) ∧ L_X10_stones_4 X d n (zpI P) (x1 + 0) (x2 + 1) σ) ∧ (¬ (gI σ 85 x2.toNat = 0) → R32 (x1 + 1) ∧ R32 (x2 + 1) ∧ L_X10_stones_4 X d n (zpI P) (x1 + 1) (x2 + 1) σ))) :
    L_X10_stones_4 X d n (zpI P) x1 x2 σ := by
  intro hx1 hx2 k0
  unfold Zn
  refine r_iload_n dX10_stones_4 rfl ?_
  refine r_bipush dX10_stones_5 rfl ?_
  refine r_icmp_ge (t := 33) dX10_stones_7 rfl hx2 (r32c rfl) (fun c1 => ?_) (fun c2 => ?_)
  · have h3 := h.1 c1
    refine r_iload_n dX10_stones_33 rfl ?_
    exact r_ireturn dX10_stones_34 rfl ⟨k0, _, rfl, hx1, h3⟩
  · have h4 := h.2 c2
    refine r_iload_n dX10_stones_10 rfl ?_
    refine r_aload_n dX10_stones_11 rfl ?_
    refine r_getP (a := 85) dX10_stones_12 kf_RX10_49 (zlt hn rfl) sh_73 rfl (k0.1 _ _ _ (zlt hn rfl) p_73_15) ?_
    refine r_iload_n dX10_stones_15 rfl ?_
    obtain ⟨h5, h6⟩ := h4
    refine r_zaloadE dX10_stones_16 (zlt hn rfl) sh_85 h5.1 h5.2 rfl ?_
    refine r_if_eq (t := 24) dX10_stones_17 rfl (k0.2.1 _ _)  (fun c7 => ?_) (fun c8 => ?_)
    · have h9 := h6.1 c7
      refine r_iconst dX10_stones_24 ?_
      refine r_iadd dX10_stones_25 ?_
      refine r_istore_n dX10_stones_26 rfl rfl ?_
      refine r_iinc dX10_stones_27 rfl rfl rfl ?_
      refine r_goto (t := 4) dX10_stones_30 rfl ?_
      obtain ⟨h10, h11⟩ := h9
      obtain ⟨h12, h13⟩ := h11
      exact r_mask [true, true, true] rfl (h13 h10 h12 k0)
    · have h14 := h6.2 c8
      refine r_iconst dX10_stones_20 ?_
      refine r_goto (t := 25) dX10_stones_21 rfl ?_
      refine r_iadd dX10_stones_25 ?_
      refine r_istore_n dX10_stones_26 rfl rfl ?_
      refine r_iinc dX10_stones_27 rfl rfl rfl ?_
      refine r_goto (t := 4) dX10_stones_30 rfl ?_
      obtain ⟨h15, h16⟩ := h14
      obtain ⟨h17, h18⟩ := h16
      exact r_mask [true, true, true] rfl (h18 h15 h17 k0)
/-! StoneRoomModel.chain -/
theorem dX10_chain_0 : decode M_X10_chain.2.1 0 = .ok (.aload_n 0, 1) := by decide +kernel
theorem dX10_chain_1 : decode M_X10_chain.2.1 1 = .ok (.iload_n 1, 1) := by decide +kernel
theorem dX10_chain_2 : decode M_X10_chain.2.1 2 = .ok (.invokevirtual 281, 3) := by decide +kernel
theorem dX10_chain_5 : decode M_X10_chain.2.1 5 = .ok (.ifCond .ne 5, 3) := by decide +kernel
theorem dX10_chain_8 : decode M_X10_chain.2.1 8 = .ok (.iconst (-1), 1) := by decide +kernel
theorem dX10_chain_9 : decode M_X10_chain.2.1 9 = .ok (.ireturn, 1) := by decide +kernel
theorem dX10_chain_10 : decode M_X10_chain.2.1 10 = .ok (.aload_n 0, 1) := by decide +kernel
theorem dX10_chain_11 : decode M_X10_chain.2.1 11 = .ok (.iload_n 1, 1) := by decide +kernel
theorem dX10_chain_12 : decode M_X10_chain.2.1 12 = .ok (.invokevirtual 148, 3) := by decide +kernel
theorem dX10_chain_15 : decode M_X10_chain.2.1 15 = .ok (.istore_n 3, 1) := by decide +kernel
theorem dX10_chain_16 : decode M_X10_chain.2.1 16 = .ok (.iload_n 2, 1) := by decide +kernel
theorem dX10_chain_17 : decode M_X10_chain.2.1 17 = .ok (.tableswitch 76 0 4 #[35, 40, 45, 47, 61], 35) := by decide +kernel
theorem dX10_chain_52 : decode M_X10_chain.2.1 52 = .ok (.aload_n 0, 1) := by decide +kernel
theorem dX10_chain_53 : decode M_X10_chain.2.1 53 = .ok (.invokevirtual 284, 3) := by decide +kernel
theorem dX10_chain_56 : decode M_X10_chain.2.1 56 = .ok (.ireturn, 1) := by decide +kernel
theorem dX10_chain_57 : decode M_X10_chain.2.1 57 = .ok (.aload_n 0, 1) := by decide +kernel
theorem dX10_chain_58 : decode M_X10_chain.2.1 58 = .ok (.invokevirtual 287, 3) := by decide +kernel
theorem dX10_chain_61 : decode M_X10_chain.2.1 61 = .ok (.ireturn, 1) := by decide +kernel
theorem dX10_chain_62 : decode M_X10_chain.2.1 62 = .ok (.iload_n 3, 1) := by decide +kernel
theorem dX10_chain_63 : decode M_X10_chain.2.1 63 = .ok (.ireturn, 1) := by decide +kernel
theorem dX10_chain_64 : decode M_X10_chain.2.1 64 = .ok (.aload_n 0, 1) := by decide +kernel
theorem dX10_chain_65 : decode M_X10_chain.2.1 65 = .ok (.iload_n 1, 1) := by decide +kernel
theorem dX10_chain_66 : decode M_X10_chain.2.1 66 = .ok (.invokevirtual 290, 3) := by decide +kernel
theorem dX10_chain_69 : decode M_X10_chain.2.1 69 = .ok (.ifCond .eq 7, 3) := by decide +kernel
theorem dX10_chain_72 : decode M_X10_chain.2.1 72 = .ok (.iconst 1, 1) := by decide +kernel
theorem dX10_chain_73 : decode M_X10_chain.2.1 73 = .ok (.goto 4, 3) := by decide +kernel
theorem dX10_chain_76 : decode M_X10_chain.2.1 76 = .ok (.iconst 0, 1) := by decide +kernel
theorem dX10_chain_77 : decode M_X10_chain.2.1 77 = .ok (.ireturn, 1) := by decide +kernel
theorem dX10_chain_78 : decode M_X10_chain.2.1 78 = .ok (.aload_n 0, 1) := by decide +kernel
theorem dX10_chain_79 : decode M_X10_chain.2.1 79 = .ok (.getfield 74, 3) := by decide +kernel
theorem dX10_chain_82 : decode M_X10_chain.2.1 82 = .ok (.iload_n 1, 1) := by decide +kernel
theorem dX10_chain_83 : decode M_X10_chain.2.1 83 = .ok (.baload, 1) := by decide +kernel
theorem dX10_chain_84 : decode M_X10_chain.2.1 84 = .ok (.ifCond .eq 7, 3) := by decide +kernel
theorem dX10_chain_87 : decode M_X10_chain.2.1 87 = .ok (.iconst 1, 1) := by decide +kernel
theorem dX10_chain_88 : decode M_X10_chain.2.1 88 = .ok (.goto 4, 3) := by decide +kernel
theorem dX10_chain_91 : decode M_X10_chain.2.1 91 = .ok (.iconst 0, 1) := by decide +kernel
theorem dX10_chain_92 : decode M_X10_chain.2.1 92 = .ok (.ireturn, 1) := by decide +kernel
theorem dX10_chain_93 : decode M_X10_chain.2.1 93 = .ok (.iconst (-1), 1) := by decide +kernel
theorem dX10_chain_94 : decode M_X10_chain.2.1 94 = .ok (.ireturn, 1) := by decide +kernel
theorem w_X10_chain {X : ZX} {d n : Nat} {P : Int → ZSto → Prop} {x1 : Int} {x2 : Int} {σ : ZSto} (hn : 104 ≤ n)  (hx1 : R32 x1) (hx2 : R32 x2)
    (h : ZkZ X M_X10_isStone d n [.ref (zB X + 73), iV x1] σ (fun v1 σ2 => (¬ v1 = 0 → ZkI X M_X10_flood d n [.ref (zB X + 73), iV x1] σ2 (fun v9 σ10 => (x2 = 0 → ZkI X M_X10_head d n [.ref (zB X + 73)] σ10 (fun v16 σ17 => P v16 σ17)) ∧ (x2 = 1 → ZkI X M_X10_stones d n [.ref (zB X + 73)] σ10 (fun v23 σ24 => P v23 σ24)) ∧ (x2 = 2 → P v9 σ10) ∧ (x2 = 3 → ZkZ X M_X10_lives d n [.ref (zB X + 73), iV x1] σ10 (fun v32 σ33 => (v32 = 0 → P 0 σ33) ∧ (¬ (v32 = 0) → P 1 σ33))) ∧ (x2 = 4 → (0 ≤ x1 ∧ x1 < 81) ∧ (gI σ10 92 x1.toNat = 0 → P 0 σ10) ∧ (¬ (gI σ10 92 x1.toNat = 0) → P 1 σ10)) ∧ ((x2 < 0 ∨ 4 < x2) → P ((-1)) σ10))) ∧ (v1 = 0 → P ((-1)) σ2))) :
    ZkI X M_X10_chain (d + 1) n [.ref (zB X + 73), iV x1, iV x2] σ P := by
  refine zk_of (ls := [some (.ref (zB X + 73)), some (iV x1), some (iV x2), none]) pl_RX10 (Nat.le_of_ble_eq_true rfl) rfl (fun k0 => ?_)
  unfold Zn
  refine r_aload_n dX10_chain_0 rfl ?_
  refine r_iload_n dX10_chain_1 rfl ?_
  refine n_callV (N := M_X10_isStone) (As := [iV x1]) (st := []) dX10_chain_2 mk_X10_isStone km_RX10_281 kd_X10_isStone rfl (zlt hn rfl) sh_73 (q := (RX10, TX10, 52)) rfl rfl (zFits_rm d n n n (Nat.le_refl n)) (Nat.le_of_ble_eq_true rfl) rfl k0 h ?_
  rintro _ σ2 k3 ⟨v1, rfl, h4, h5⟩
  change Zm _ _ _ _ _ _ 5 _ [iV v1] _
  refine r_if_ne (t := 10) dX10_chain_5 rfl (r32_z h4)  (fun c6 => ?_) (fun c7 => ?_)
  · have h8 := h5.1 c6
    refine r_aload_n dX10_chain_10 rfl ?_
    refine r_iload_n dX10_chain_11 rfl ?_
    refine n_callV (N := M_X10_flood) (As := [iV x1]) (st := []) dX10_chain_12 mk_X10_flood km_RX10_148 kd_X10_flood rfl (zlt hn rfl) sh_73 (q := (RX10, TX10, 52)) rfl rfl (zFits_rm d n n n (Nat.le_refl n)) (Nat.le_of_ble_eq_true rfl) rfl k3 h8 ?_
    rintro _ σ10 k11 ⟨v9, rfl, h12, h13⟩
    change Zm _ _ _ _ _ _ 15 _ [iV v9] _
    refine r_istore_n dX10_chain_15 rfl rfl ?_
    refine r_iload_n dX10_chain_16 rfl ?_
    by_cases c14 : x2 = 0
    · have h15 := h13.1 c14
      refine r_tabIn (t := 52) dX10_chain_17 hx2 (by rw [c14]; decide) (by rw [c14]; decide) (by rw [c14]; rfl) rfl ?_
      refine r_aload_n dX10_chain_52 rfl ?_
      refine n_callV (N := M_X10_head) (As := []) (st := []) dX10_chain_53 mk_X10_head km_RX10_284 kd_X10_head rfl (zlt hn rfl) sh_73 (q := (RX10, TX10, 52)) rfl rfl (zFits_rm d n n n (Nat.le_refl n)) (Nat.le_of_ble_eq_true rfl) rfl k11 h15 ?_
      rintro _ σ17 k18 ⟨v16, rfl, h19, h20⟩
      change Zm _ _ _ _ _ _ 56 _ [iV v16] _
      exact r_ireturn dX10_chain_56 rfl ⟨k18, _, rfl, h19, h20⟩
    by_cases c21 : x2 = 1
    · have h22 := h13.2.1 c21
      refine r_tabIn (t := 57) dX10_chain_17 hx2 (by rw [c21]; decide) (by rw [c21]; decide) (by rw [c21]; rfl) rfl ?_
      refine r_aload_n dX10_chain_57 rfl ?_
      refine n_callV (N := M_X10_stones) (As := []) (st := []) dX10_chain_58 mk_X10_stones km_RX10_287 kd_X10_stones rfl (zlt hn rfl) sh_73 (q := (RX10, TX10, 52)) rfl rfl (zFits_rm d n n n (Nat.le_refl n)) (Nat.le_of_ble_eq_true rfl) rfl k11 h22 ?_
      rintro _ σ24 k25 ⟨v23, rfl, h26, h27⟩
      change Zm _ _ _ _ _ _ 61 _ [iV v23] _
      exact r_ireturn dX10_chain_61 rfl ⟨k25, _, rfl, h26, h27⟩
    by_cases c28 : x2 = 2
    · have h29 := h13.2.2.1 c28
      refine r_tabIn (t := 62) dX10_chain_17 hx2 (by rw [c28]; decide) (by rw [c28]; decide) (by rw [c28]; rfl) rfl ?_
      refine r_iload_n dX10_chain_62 rfl ?_
      exact r_ireturn dX10_chain_63 rfl ⟨k11, _, rfl, h12, h29⟩
    by_cases c30 : x2 = 3
    · have h31 := h13.2.2.2.1 c30
      refine r_tabIn (t := 64) dX10_chain_17 hx2 (by rw [c30]; decide) (by rw [c30]; decide) (by rw [c30]; rfl) rfl ?_
      refine r_aload_n dX10_chain_64 rfl ?_
      refine r_iload_n dX10_chain_65 rfl ?_
      refine n_callV (N := M_X10_lives) (As := [iV x1]) (st := []) dX10_chain_66 mk_X10_lives km_RX10_290 kd_X10_lives rfl (zlt hn rfl) sh_73 (q := (RX10, TX10, 52)) rfl rfl (zFits_rm d n n n (Nat.le_refl n)) (Nat.le_of_ble_eq_true rfl) rfl k11 h31 ?_
      rintro _ σ33 k34 ⟨v32, rfl, h35, h36⟩
      change Zm _ _ _ _ _ _ 69 _ [iV v32] _
      refine r_if_eq (t := 76) dX10_chain_69 rfl (r32_z h35)  (fun c37 => ?_) (fun c38 => ?_)
      · have h39 := h36.1 c37
        refine r_iconst dX10_chain_76 ?_
        exact r_ireturn dX10_chain_77 rfl ⟨k34, _, rfl, (r32c rfl), h39⟩
      · have h40 := h36.2 c38
        refine r_iconst dX10_chain_72 ?_
        refine r_goto (t := 77) dX10_chain_73 rfl ?_
        exact r_ireturn dX10_chain_77 rfl ⟨k34, _, rfl, (r32c rfl), h40⟩
    by_cases c41 : x2 = 4
    · have h42 := h13.2.2.2.2.1 c41
      refine r_tabIn (t := 78) dX10_chain_17 hx2 (by rw [c41]; decide) (by rw [c41]; decide) (by rw [c41]; rfl) rfl ?_
      refine r_aload_n dX10_chain_78 rfl ?_
      refine r_getP (a := 92) dX10_chain_79 kf_RX10_74 (zlt hn rfl) sh_73 rfl (k11.1 _ _ _ (zlt hn rfl) p_73_33) ?_
      refine r_iload_n dX10_chain_82 rfl ?_
      obtain ⟨h43, h44⟩ := h42
      refine r_zaloadE dX10_chain_83 (zlt hn rfl) sh_92 h43.1 h43.2 rfl ?_
      refine r_if_eq (t := 91) dX10_chain_84 rfl (k11.2.1 _ _)  (fun c45 => ?_) (fun c46 => ?_)
      · have h47 := h44.1 c45
        refine r_iconst dX10_chain_91 ?_
        exact r_ireturn dX10_chain_92 rfl ⟨k11, _, rfl, (r32c rfl), h47⟩
      · have h48 := h44.2 c46
        refine r_iconst dX10_chain_87 ?_
        refine r_goto (t := 92) dX10_chain_88 rfl ?_
        exact r_ireturn dX10_chain_92 rfl ⟨k11, _, rfl, (r32c rfl), h48⟩
    · have c50 : (x2 < 0 ∨ 4 < x2) := by omega
      have h49 := h13.2.2.2.2.2 c50
      refine r_tabOut (t := 93) dX10_chain_17 hx2 c50 rfl ?_
      refine r_iconst dX10_chain_93 ?_
      exact r_ireturn dX10_chain_94 rfl ⟨k11, _, rfl, (r32c rfl), h49⟩
  · have h51 := h5.2 c7
    refine r_iconst dX10_chain_8 ?_
    exact r_ireturn dX10_chain_9 rfl ⟨k3, _, rfl, (r32c rfl), h51⟩
