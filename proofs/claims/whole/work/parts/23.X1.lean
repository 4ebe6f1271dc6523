/-! StoneRoom$Bytes.addByte -/
theorem dX1_addByte_0 : decode M_X1_addByte.2.1 0 = .ok (.aload_n 0, 1) := by decide +kernel
theorem dX1_addByte_1 : decode M_X1_addByte.2.1 1 = .ok (.getfield 9, 3) := by decide +kernel
theorem dX1_addByte_4 : decode M_X1_addByte.2.1 4 = .ok (.ifCond .lt 36, 3) := by decide +kernel
theorem dX1_addByte_7 : decode M_X1_addByte.2.1 7 = .ok (.aload_n 0, 1) := by decide +kernel
theorem dX1_addByte_8 : decode M_X1_addByte.2.1 8 = .ok (.getfield 9, 3) := by decide +kernel
theorem dX1_addByte_11 : decode M_X1_addByte.2.1 11 = .ok (.aload_n 0, 1) := by decide +kernel
theorem dX1_addByte_12 : decode M_X1_addByte.2.1 12 = .ok (.getfield 21, 3) := by decide +kernel
theorem dX1_addByte_15 : decode M_X1_addByte.2.1 15 = .ok (.arraylength, 1) := by decide +kernel
theorem dX1_addByte_16 : decode M_X1_addByte.2.1 16 = .ok (.if_icmp .ge 24, 3) := by decide +kernel
theorem dX1_addByte_19 : decode M_X1_addByte.2.1 19 = .ok (.aload_n 0, 1) := by decide +kernel
theorem dX1_addByte_20 : decode M_X1_addByte.2.1 20 = .ok (.getfield 21, 3) := by decide +kernel
theorem dX1_addByte_23 : decode M_X1_addByte.2.1 23 = .ok (.aload_n 0, 1) := by decide +kernel
theorem dX1_addByte_24 : decode M_X1_addByte.2.1 24 = .ok (.getfield 9, 3) := by decide +kernel
theorem dX1_addByte_27 : decode M_X1_addByte.2.1 27 = .ok (.iload_n 1, 1) := by decide +kernel
theorem dX1_addByte_28 : decode M_X1_addByte.2.1 28 = .ok (.i2b, 1) := by decide +kernel
theorem dX1_addByte_29 : decode M_X1_addByte.2.1 29 = .ok (.bastore, 1) := by decide +kernel
theorem dX1_addByte_30 : decode M_X1_addByte.2.1 30 = .ok (.aload_n 0, 1) := by decide +kernel
theorem dX1_addByte_31 : decode M_X1_addByte.2.1 31 = .ok (.dup, 1) := by decide +kernel
theorem dX1_addByte_32 : decode M_X1_addByte.2.1 32 = .ok (.getfield 9, 3) := by decide +kernel
theorem dX1_addByte_35 : decode M_X1_addByte.2.1 35 = .ok (.iconst 1, 1) := by decide +kernel
theorem dX1_addByte_36 : decode M_X1_addByte.2.1 36 = .ok (.iadd, 1) := by decide +kernel
theorem dX1_addByte_37 : decode M_X1_addByte.2.1 37 = .ok (.putfield 9, 3) := by decide +kernel
theorem dX1_addByte_40 : decode M_X1_addByte.2.1 40 = .ok (.return_, 1) := by decide +kernel
theorem w_X1_addByte {X : ZX} {d n : Nat} {P : ZSto → Prop} {o0 : Nat} {x1 : Int} {σ : ZSto} (hn : 73 ≤ n) (hc0 : zIsY o0) (hx1 : R32 x1)
    (h : (gI σ o0 1 < 0 → P σ) ∧ (¬ (gI σ o0 1 < 0) → (((zYn o0 : Nat) : Int) ≤ gI σ o0 1 → P σ) ∧ (¬ (((zYn o0 : Nat) : Int) ≤ gI σ o0 1) → (0 ≤ gI σ o0 1 ∧ gI σ o0 1 < ((zYn o0 : Nat) : Int)) ∧ R32 ((gI σ o0 1) + 1) ∧ P (sI (sI σ (o0 + 1) ((gI σ o0 1).toNat) (w8 x1)) o0 1 ((gI σ o0 1) + 1))))) :
    ZkV X M_X1_addByte (d + 1) n [.ref (zB X + o0), iV x1] σ P := by
  refine zk_of (ls := [some (.ref (zB X + o0)), some (iV x1)]) pl_RX1 (Nat.le_of_ble_eq_true rfl) rfl (fun k0 => ?_)
  unfold Zn
  refine r_aload_n dX1_addByte_0 rfl ?_
  refine r_getI dX1_addByte_1 kf_RX1_9 (zY_lt hc0 hn) (zY_s hc0) (Or.inl rfl) rfl ?_
  refine r_if_lt (t := 40) dX1_addByte_4 rfl (k0.2.1 _ _)  (fun c1 => ?_) (fun c2 => ?_)
  · have h3 := h.1 c1
    exact r_return dX1_addByte_40 rfl ⟨k0, rfl, h3⟩
  · have h4 := h.2 c2
    refine r_aload_n dX1_addByte_7 rfl ?_
    refine r_getI dX1_addByte_8 kf_RX1_9 (zY_lt hc0 hn) (zY_s hc0) (Or.inl rfl) rfl ?_
    refine r_aload_n dX1_addByte_11 rfl ?_
    refine r_getP (a := (o0 + 1)) dX1_addByte_12 kf_RX1_21 (zY_lt hc0 hn) (zY_s hc0) rfl (k0.1 _ _ _ (zY_lt hc0 hn) (zY_p0 hc0)) ?_
    refine r_alen dX1_addByte_15 (zY_l0 hc0 hn) (zY_s0 hc0) (Or.inr (Or.inl rfl)) ?_
    refine r_icmp_ge (t := 40) dX1_addByte_16 rfl (k0.2.1 _ _) (r32_len (zY_s0 hc0)) (fun c5 => ?_) (fun c6 => ?_)
    · have h7 := h4.1 c5
      exact r_return dX1_addByte_40 rfl ⟨k0, rfl, h7⟩
    · have h8 := h4.2 c6
      refine r_aload_n dX1_addByte_19 rfl ?_
      refine r_getP (a := (o0 + 1)) dX1_addByte_20 kf_RX1_21 (zY_lt hc0 hn) (zY_s hc0) rfl (k0.1 _ _ _ (zY_lt hc0 hn) (zY_p0 hc0)) ?_
      refine r_aload_n dX1_addByte_23 rfl ?_
      refine r_getI dX1_addByte_24 kf_RX1_9 (zY_lt hc0 hn) (zY_s hc0) (Or.inl rfl) rfl ?_
      refine r_iload_n dX1_addByte_27 rfl ?_
      refine r_i2b dX1_addByte_28 ?_
      obtain ⟨h9, h10⟩ := h8
      refine r_bastore dX1_addByte_29 (zY_l0 hc0 hn) (zY_s0 hc0) h9.1 h9.2 (w8_lo _) (w8_hi _) ?_
      have k11 := zok_b (i := (gI σ o0 1).toNat) (x := w8 x1) k0 (zY_s0 hc0) (w8_lo _) (w8_hi _)
      refine r_aload_n dX1_addByte_30 rfl ?_
      refine r_dup dX1_addByte_31 rfl ?_
      refine r_getI dX1_addByte_32 kf_RX1_9 (zY_lt hc0 hn) (zY_s hc0) (Or.inl rfl) (gI_c (by omega)) ?_
      refine r_iconst dX1_addByte_35 ?_
      refine r_iadd dX1_addByte_36 ?_
      obtain ⟨h12, h13⟩ := h10
      refine r_putI dX1_addByte_37 kf_RX1_9 (zY_lt hc0 hn) (zY_s hc0) rfl (Or.inl rfl) ?_
      have k14 := zok_o (i := 1) (x := (gI σ o0 1) + 1) k11 (zY_s hc0) h12
      exact r_return dX1_addByte_40 rfl ⟨k14, rfl, h13⟩
/-! StoneRoom$Bytes.addNumber -/
theorem dX1_addNumber_0 : decode M_X1_addNumber.2.1 0 = .ok (.bipush 24, 2) := by decide +kernel
theorem dX1_addNumber_2 : decode M_X1_addNumber.2.1 2 = .ok (.istore_n 2, 1) := by decide +kernel
theorem dX1_addNumber_3 : decode M_X1_addNumber.2.1 3 = .ok (.iload_n 2, 1) := by decide +kernel
theorem dX1_addNumber_4 : decode M_X1_addNumber.2.1 4 = .ok (.ifCond .lt 16, 3) := by decide +kernel
theorem dX1_addNumber_7 : decode M_X1_addNumber.2.1 7 = .ok (.aload_n 0, 1) := by decide +kernel
theorem dX1_addNumber_8 : decode M_X1_addNumber.2.1 8 = .ok (.iload_n 1, 1) := by decide +kernel
theorem dX1_addNumber_9 : decode M_X1_addNumber.2.1 9 = .ok (.iload_n 2, 1) := by decide +kernel
theorem dX1_addNumber_10 : decode M_X1_addNumber.2.1 10 = .ok (.iushr, 1) := by decide +kernel
theorem dX1_addNumber_11 : decode M_X1_addNumber.2.1 11 = .ok (.invokevirtual 25, 3) := by decide +kernel
theorem dX1_addNumber_14 : decode M_X1_addNumber.2.1 14 = .ok (.iinc 2 (-8), 3) := by decide +kernel
theorem dX1_addNumber_17 : decode M_X1_addNumber.2.1 17 = .ok (.goto (-14), 3) := by decide +kernel
theorem dX1_addNumber_20 : decode M_X1_addNumber.2.1 20 = .ok (.return_, 1) := by decide +kernel
def L_X1_addNumber_3 (X : ZX) (d n : Nat) (P : Option Value → ZSto → Prop) (o0 : Nat) (x1 : Int) (x2 : Int) (σ : ZSto) : Prop := R32 x1 → R32 x2 → ZOk n σ → Zn X M_X1_addNumber d n P 3 [some (.ref (zB X + o0)), some (iV x1), some (iV x2)] [] σ
theorem w_X1_addNumber {X : ZX} {d n : Nat} {P : ZSto → Prop} {o0 : Nat} {x1 : Int} {σ : ZSto} (hn : 73 ≤ n) (hc0 : zIsY o0) (hx1 : R32 x1)
    (h : L_X1_addNumber_3 X d n (zpV P) o0 x1 24 σ) :
    ZkV X M_X1_addNumber (d + 1) n [.ref (zB X + o0), iV x1] σ P := by
  refine zk_of (ls := [some (.ref (zB X + o0)), some (iV x1), none]) pl_RX1 (Nat.le_of_ble_eq_true rfl) rfl (fun k0 => ?_)
  unfold Zn
  refine r_bipush dX1_addNumber_0 rfl ?_
  refine r_istore_n dX1_addNumber_2 rfl rfl ?_
  exact r_mask [true, true, true] rfl (h hx1 (r32c rfl) k0)
theorem b_X1_addNumber_3 {X : ZX} {d n : Nat} {P : ZSto → Prop} {o0 : Nat} {x1 : Int} {x2 : Int} {σ : ZSto} (hn : 73 ≤ n) (hc0 : zIsY o0)
    (h : (x2 < 0 → P σ) ∧ (¬ (x2 < 0) → ZkV X M_X1_addByte d n [.ref (zB X + o0), iV (ushrI x1 x2)] σ (fun σ6 => R32 (x2 + (-8)) ∧ L_X1_addNumber_3 X d n (zpV P) o0 x1 (x2 + (-8)) σ6))) :
    L_X1_addNumber_3 X d n (zpV P) o0 x1 x2 σ := by
  intro hx1 hx2 k0
  unfold Zn
  refine r_iload_n dX1_addNumber_3 rfl ?_
  refine r_if_lt (t := 20) dX1_addNumber_4 rfl hx2  (fun c1 => ?_) (fun c2 => ?_)
  · have h3 := h.1 c1
    exact r_return dX1_addNumber_20 rfl ⟨k0, rfl, h3⟩
  · have h4 := h.2 c2
    refine r_aload_n dX1_addNumber_7 rfl ?_
    refine r_iload_n dX1_addNumber_8 rfl ?_
    refine r_iload_n dX1_addNumber_9 rfl ?_
    refine r_iushr dX1_addNumber_10 ?_
    refine n_callV (N := M_X1_addByte) (As := [iV (ushrI x1 x2)]) (st := []) dX1_addNumber_11 mk_X1_addByte km_RX1_25 kd_X1_addByte rfl (zY_lt hc0 hn) (zY_s hc0) (q := (RX1, TX1, 2)) rfl rfl (zFits_rm d n n n (Nat.le_refl n)) (Nat.le_of_ble_eq_true rfl) rfl k0 h4 ?_
    rintro _ σ6 k7 ⟨rfl, h9⟩
    change Zm _ _ _ _ _ _ 14 _ [] _
    refine r_iinc dX1_addNumber_14 rfl rfl rfl ?_
    refine r_goto (t := 3) dX1_addNumber_17 rfl ?_
    obtain ⟨h10, h11⟩ := h9
    exact r_mask [true, true, true] rfl (h11 hx1 h10 k7)
/-! StoneRoom$Bytes.byteAt -/
theorem dX1_byteAt_0 : decode M_X1_byteAt.2.1 0 = .ok (.iload_n 1, 1) := by decide +kernel
theorem dX1_byteAt_1 : decode M_X1_byteAt.2.1 1 = .ok (.ifCond .lt 20, 3) := by decide +kernel
theorem dX1_byteAt_4 : decode M_X1_byteAt.2.1 4 = .ok (.iload_n 1, 1) := by decide +kernel
theorem dX1_byteAt_5 : decode M_X1_byteAt.2.1 5 = .ok (.aload_n 0, 1) := by decide +kernel
theorem dX1_byteAt_6 : decode M_X1_byteAt.2.1 6 = .ok (.getfield 9, 3) := by decide +kernel
theorem dX1_byteAt_9 : decode M_X1_byteAt.2.1 9 = .ok (.if_icmp .ge 12, 3) := by decide +kernel
theorem dX1_byteAt_12 : decode M_X1_byteAt.2.1 12 = .ok (.iload_n 1, 1) := by decide +kernel
theorem dX1_byteAt_13 : decode M_X1_byteAt.2.1 13 = .ok (.aload_n 0, 1) := by decide +kernel
theorem dX1_byteAt_14 : decode M_X1_byteAt.2.1 14 = .ok (.getfield 21, 3) := by decide +kernel
theorem dX1_byteAt_17 : decode M_X1_byteAt.2.1 17 = .ok (.arraylength, 1) := by decide +kernel
theorem dX1_byteAt_18 : decode M_X1_byteAt.2.1 18 = .ok (.if_icmp .lt 7, 3) := by decide +kernel
theorem dX1_byteAt_21 : decode M_X1_byteAt.2.1 21 = .ok (.iconst (-1), 1) := by decide +kernel
theorem dX1_byteAt_22 : decode M_X1_byteAt.2.1 22 = .ok (.goto 13, 3) := by decide +kernel
theorem dX1_byteAt_25 : decode M_X1_byteAt.2.1 25 = .ok (.aload_n 0, 1) := by decide +kernel
theorem dX1_byteAt_26 : decode M_X1_byteAt.2.1 26 = .ok (.getfield 21, 3) := by decide +kernel
theorem dX1_byteAt_29 : decode M_X1_byteAt.2.1 29 = .ok (.iload_n 1, 1) := by decide +kernel
theorem dX1_byteAt_30 : decode M_X1_byteAt.2.1 30 = .ok (.baload, 1) := by decide +kernel
theorem dX1_byteAt_31 : decode M_X1_byteAt.2.1 31 = .ok (.sipush 255, 3) := by decide +kernel
theorem dX1_byteAt_34 : decode M_X1_byteAt.2.1 34 = .ok (.iand, 1) := by decide +kernel
theorem dX1_byteAt_35 : decode M_X1_byteAt.2.1 35 = .ok (.ireturn, 1) := by decide +kernel
theorem w_X1_byteAt {X : ZX} {d n : Nat} {P : Int → ZSto → Prop} {o0 : Nat} {x1 : Int} {σ : ZSto} (hn : 73 ≤ n) (hc0 : zIsY o0) (hx1 : R32 x1)
    (h : (x1 < 0 → P ((-1)) σ) ∧ (¬ (x1 < 0) → (gI σ o0 1 ≤ x1 → P ((-1)) σ) ∧ (¬ (gI σ o0 1 ≤ x1) → (x1 < ((zYn o0 : Nat) : Int) → (0 ≤ x1 ∧ x1 < ((zYn o0 : Nat) : Int)) ∧ P (andI (gI σ (o0 + 1) x1.toNat) 255) σ) ∧ (¬ (x1 < ((zYn o0 : Nat) : Int)) → P ((-1)) σ)))) :
    ZkI X M_X1_byteAt (d + 1) n [.ref (zB X + o0), iV x1] σ P := by
  refine zk_of (ls := [some (.ref (zB X + o0)), some (iV x1)]) pl_RX1 (Nat.le_of_ble_eq_true rfl) rfl (fun k0 => ?_)
  unfold Zn
  refine r_iload_n dX1_byteAt_0 rfl ?_
  refine r_if_lt (t := 21) dX1_byteAt_1 rfl hx1  (fun c1 => ?_) (fun c2 => ?_)
  · have h3 := h.1 c1
    refine r_iconst dX1_byteAt_21 ?_
    refine r_goto (t := 35) dX1_byteAt_22 rfl ?_
    exact r_ireturn dX1_byteAt_35 rfl ⟨k0, _, rfl, (r32c rfl), h3⟩
  · have h4 := h.2 c2
    refine r_iload_n dX1_byteAt_4 rfl ?_
    refine r_aload_n dX1_byteAt_5 rfl ?_
    refine r_getI dX1_byteAt_6 kf_RX1_9 (zY_lt hc0 hn) (zY_s hc0) (Or.inl rfl) rfl ?_
    refine r_icmp_ge (t := 21) dX1_byteAt_9 rfl hx1 (k0.2.1 _ _) (fun c5 => ?_) (fun c6 => ?_)
    · have h7 := h4.1 c5
      refine r_iconst dX1_byteAt_21 ?_
      refine r_goto (t := 35) dX1_byteAt_22 rfl ?_
      exact r_ireturn dX1_byteAt_35 rfl ⟨k0, _, rfl, (r32c rfl), h7⟩
    · have h8 := h4.2 c6
      refine r_iload_n dX1_byteAt_12 rfl ?_
      refine r_aload_n dX1_byteAt_13 rfl ?_
      refine r_getP (a := (o0 + 1)) dX1_byteAt_14 kf_RX1_21 (zY_lt hc0 hn) (zY_s hc0) rfl (k0.1 _ _ _ (zY_lt hc0 hn) (zY_p0 hc0)) ?_
      refine r_alen dX1_byteAt_17 (zY_l0 hc0 hn) (zY_s0 hc0) (Or.inr (Or.inl rfl)) ?_
      refine r_icmp_lt (t := 25) dX1_byteAt_18 rfl hx1 (r32_len (zY_s0 hc0)) (fun c9 => ?_) (fun c10 => ?_)
      · have h11 := h8.1 c9
        refine r_aload_n dX1_byteAt_25 rfl ?_
        refine r_getP (a := (o0 + 1)) dX1_byteAt_26 kf_RX1_21 (zY_lt hc0 hn) (zY_s hc0) rfl (k0.1 _ _ _ (zY_lt hc0 hn) (zY_p0 hc0)) ?_
        refine r_iload_n dX1_byteAt_29 rfl ?_
        obtain ⟨h12, h13⟩ := h11
        refine r_baloadE dX1_byteAt_30 (zY_l0 hc0 hn) (zY_s0 hc0) h12.1 h12.2 rfl ?_
        refine r_sipush dX1_byteAt_31 rfl ?_
        refine r_iand dX1_byteAt_34 ?_
        exact r_ireturn dX1_byteAt_35 rfl ⟨k0, _, rfl, (r32_and _ _), h13⟩
      · have h14 := h8.2 c10
        refine r_iconst dX1_byteAt_21 ?_
        refine r_goto (t := 35) dX1_byteAt_22 rfl ?_
        exact r_ireturn dX1_byteAt_35 rfl ⟨k0, _, rfl, (r32c rfl), h14⟩
