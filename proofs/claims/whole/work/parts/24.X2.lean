/-! StoneRoom$Clock.wind -/
theorem dX2_wind_0 : decode M_X2_wind.2.1 0 = .ok (.aload_n 0, 1) := by decide +kernel
theorem dX2_wind_1 : decode M_X2_wind.2.1 1 = .ok (.iload_n 1, 1) := by decide +kernel
theorem dX2_wind_2 : decode M_X2_wind.2.1 2 = .ok (.putfield 9, 3) := by decide +kernel
theorem dX2_wind_5 : decode M_X2_wind.2.1 5 = .ok (.aload_n 0, 1) := by decide +kernel
theorem dX2_wind_6 : decode M_X2_wind.2.1 6 = .ok (.iload_n 2, 1) := by decide +kernel
theorem dX2_wind_7 : decode M_X2_wind.2.1 7 = .ok (.putfield 15, 3) := by decide +kernel
theorem dX2_wind_10 : decode M_X2_wind.2.1 10 = .ok (.aload_n 0, 1) := by decide +kernel
theorem dX2_wind_11 : decode M_X2_wind.2.1 11 = .ok (.iload_n 3, 1) := by decide +kernel
theorem dX2_wind_12 : decode M_X2_wind.2.1 12 = .ok (.putfield 18, 3) := by decide +kernel
theorem dX2_wind_15 : decode M_X2_wind.2.1 15 = .ok (.aload_n 0, 1) := by decide +kernel
theorem dX2_wind_16 : decode M_X2_wind.2.1 16 = .ok (.iconst 0, 1) := by decide +kernel
theorem dX2_wind_17 : decode M_X2_wind.2.1 17 = .ok (.putfield 21, 3) := by decide +kernel
theorem dX2_wind_20 : decode M_X2_wind.2.1 20 = .ok (.return_, 1) := by decide +kernel
theorem w_X2_wind {X : ZX} {d n : Nat} {P : ZSto → Prop} {o0 : Nat} {x1 : Int} {x2 : Int} {x3 : Int} {σ : ZSto} (hn : 73 ≤ n) (hc0 : zIsC o0) (hx1 : R32 x1) (hx2 : R32 x2) (hx3 : R32 x3)
    (h : P (sI (sI (sI (sI σ o0 0 x1) o0 1 x2) o0 2 x3) o0 3 0)) :
    ZkV X M_X2_wind (d + 1) n [.ref (zB X + o0), iV x1, iV x2, iV x3] σ P := by
  refine zk_of (ls := [some (.ref (zB X + o0)), some (iV x1), some (iV x2), some (iV x3)]) pl_RX2 (Nat.le_of_ble_eq_true rfl) rfl (fun k0 => ?_)
  unfold Zn
  refine r_aload_n dX2_wind_0 rfl ?_
  refine r_iload_n dX2_wind_1 rfl ?_
  refine r_putI dX2_wind_2 kf_RX2_9 (zC_lt hc0 hn) (zC_s hc0) rfl (Or.inl rfl) ?_
  have k1 := zok_o (i := 0) (x := x1) k0 (zC_s hc0) hx1
  refine r_aload_n dX2_wind_5 rfl ?_
  refine r_iload_n dX2_wind_6 rfl ?_
  refine r_putI dX2_wind_7 kf_RX2_15 (zC_lt hc0 hn) (zC_s hc0) rfl (Or.inl rfl) ?_
  have k2 := zok_o (i := 1) (x := x2) k1 (zC_s hc0) hx2
  refine r_aload_n dX2_wind_10 rfl ?_
  refine r_iload_n dX2_wind_11 rfl ?_
  refine r_putI dX2_wind_12 kf_RX2_18 (zC_lt hc0 hn) (zC_s hc0) rfl (Or.inl rfl) ?_
  have k3 := zok_o (i := 2) (x := x3) k2 (zC_s hc0) hx3
  refine r_aload_n dX2_wind_15 rfl ?_
  refine r_iconst dX2_wind_16 ?_
  refine r_putI dX2_wind_17 kf_RX2_21 (zC_lt hc0 hn) (zC_s hc0) rfl (Or.inr ⟨rfl, (Or.inl rfl)⟩) ?_
  have k4 := zok_o (i := 3) (x := 0) k3 (zC_s hc0) (r32c rfl)
  exact r_return dX2_wind_20 rfl ⟨k4, rfl, h⟩
/-! StoneRoom$Clock.spend -/
theorem dX2_spend_0 : decode M_X2_spend.2.1 0 = .ok (.iload_n 1, 1) := by decide +kernel
theorem dX2_spend_1 : decode M_X2_spend.2.1 1 = .ok (.aload_n 0, 1) := by decide +kernel
theorem dX2_spend_2 : decode M_X2_spend.2.1 2 = .ok (.getfield 9, 3) := by decide +kernel
theorem dX2_spend_5 : decode M_X2_spend.2.1 5 = .ok (.isub, 1) := by decide +kernel
theorem dX2_spend_6 : decode M_X2_spend.2.1 6 = .ok (.iconst 0, 1) := by decide +kernel
theorem dX2_spend_7 : decode M_X2_spend.2.1 7 = .ok (.invokestatic 25, 3) := by decide +kernel
theorem dX2_spend_10 : decode M_X2_spend.2.1 10 = .ok (.istore_n 2, 1) := by decide +kernel
theorem dX2_spend_11 : decode M_X2_spend.2.1 11 = .ok (.aload_n 0, 1) := by decide +kernel
theorem dX2_spend_12 : decode M_X2_spend.2.1 12 = .ok (.aload_n 0, 1) := by decide +kernel
theorem dX2_spend_13 : decode M_X2_spend.2.1 13 = .ok (.getfield 9, 3) := by decide +kernel
theorem dX2_spend_16 : decode M_X2_spend.2.1 16 = .ok (.iload_n 1, 1) := by decide +kernel
theorem dX2_spend_17 : decode M_X2_spend.2.1 17 = .ok (.isub, 1) := by decide +kernel
theorem dX2_spend_18 : decode M_X2_spend.2.1 18 = .ok (.iconst 0, 1) := by decide +kernel
theorem dX2_spend_19 : decode M_X2_spend.2.1 19 = .ok (.invokestatic 25, 3) := by decide +kernel
theorem dX2_spend_22 : decode M_X2_spend.2.1 22 = .ok (.putfield 9, 3) := by decide +kernel
theorem dX2_spend_25 : decode M_X2_spend.2.1 25 = .ok (.aload_n 0, 1) := by decide +kernel
theorem dX2_spend_26 : decode M_X2_spend.2.1 26 = .ok (.getfield 15, 3) := by decide +kernel
theorem dX2_spend_29 : decode M_X2_spend.2.1 29 = .ok (.ifCond .eq 10, 3) := by decide +kernel
theorem dX2_spend_32 : decode M_X2_spend.2.1 32 = .ok (.aload_n 0, 1) := by decide +kernel
theorem dX2_spend_33 : decode M_X2_spend.2.1 33 = .ok (.getfield 18, 3) := by decide +kernel
theorem dX2_spend_36 : decode M_X2_spend.2.1 36 = .ok (.ifCond .gt 17, 3) := by decide +kernel
theorem dX2_spend_39 : decode M_X2_spend.2.1 39 = .ok (.aload_n 0, 1) := by decide +kernel
theorem dX2_spend_40 : decode M_X2_spend.2.1 40 = .ok (.iload_n 2, 1) := by decide +kernel
theorem dX2_spend_41 : decode M_X2_spend.2.1 41 = .ok (.ifCond .le 7, 3) := by decide +kernel
theorem dX2_spend_44 : decode M_X2_spend.2.1 44 = .ok (.iconst 1, 1) := by decide +kernel
theorem dX2_spend_45 : decode M_X2_spend.2.1 45 = .ok (.goto 4, 3) := by decide +kernel
theorem dX2_spend_48 : decode M_X2_spend.2.1 48 = .ok (.iconst 0, 1) := by decide +kernel
theorem dX2_spend_49 : decode M_X2_spend.2.1 49 = .ok (.putfield 21, 3) := by decide +kernel
theorem dX2_spend_52 : decode M_X2_spend.2.1 52 = .ok (.return_, 1) := by decide +kernel
theorem dX2_spend_53 : decode M_X2_spend.2.1 53 = .ok (.aload_n 0, 1) := by decide +kernel
theorem dX2_spend_54 : decode M_X2_spend.2.1 54 = .ok (.dup, 1) := by decide +kernel
theorem dX2_spend_55 : decode M_X2_spend.2.1 55 = .ok (.getfield 15, 3) := by decide +kernel
theorem dX2_spend_58 : decode M_X2_spend.2.1 58 = .ok (.aload_n 0, 1) := by decide +kernel
theorem dX2_spend_59 : decode M_X2_spend.2.1 59 = .ok (.getfield 15, 3) := by decide +kernel
theorem dX2_spend_62 : decode M_X2_spend.2.1 62 = .ok (.iload_n 2, 1) := by decide +kernel
theorem dX2_spend_63 : decode M_X2_spend.2.1 63 = .ok (.aload_n 0, 1) := by decide +kernel
theorem dX2_spend_64 : decode M_X2_spend.2.1 64 = .ok (.getfield 18, 3) := by decide +kernel
theorem dX2_spend_67 : decode M_X2_spend.2.1 67 = .ok (.idiv, 1) := by decide +kernel
theorem dX2_spend_68 : decode M_X2_spend.2.1 68 = .ok (.invokestatic 31, 3) := by decide +kernel
theorem dX2_spend_71 : decode M_X2_spend.2.1 71 = .ok (.isub, 1) := by decide +kernel
theorem dX2_spend_72 : decode M_X2_spend.2.1 72 = .ok (.putfield 15, 3) := by decide +kernel
theorem dX2_spend_75 : decode M_X2_spend.2.1 75 = .ok (.aload_n 0, 1) := by decide +kernel
theorem dX2_spend_76 : decode M_X2_spend.2.1 76 = .ok (.aload_n 0, 1) := by decide +kernel
theorem dX2_spend_77 : decode M_X2_spend.2.1 77 = .ok (.getfield 15, 3) := by decide +kernel
theorem dX2_spend_80 : decode M_X2_spend.2.1 80 = .ok (.ifCond .ne 7, 3) := by decide +kernel
theorem dX2_spend_83 : decode M_X2_spend.2.1 83 = .ok (.iconst 1, 1) := by decide +kernel
theorem dX2_spend_84 : decode M_X2_spend.2.1 84 = .ok (.goto 4, 3) := by decide +kernel
theorem dX2_spend_87 : decode M_X2_spend.2.1 87 = .ok (.iconst 0, 1) := by decide +kernel
theorem dX2_spend_88 : decode M_X2_spend.2.1 88 = .ok (.putfield 21, 3) := by decide +kernel
theorem dX2_spend_91 : decode M_X2_spend.2.1 91 = .ok (.return_, 1) := by decide +kernel
theorem w_X2_spend {X : ZX} {d n : Nat} {P : ZSto → Prop} {o0 : Nat} {x1 : Int} {σ : ZSto} (hn : 73 ≤ n) (hc0 : zIsC o0) (hx1 : R32 x1)
    (h : R32 (x1 - (gI σ o0 0)) ∧ (∀ y3 : Int, y3 = maxI (x1 - (gI σ o0 0)) 0 → R32 ((gI σ o0 0) - x1) ∧ (gI σ o0 1 = 0 → (y3 ≤ 0 → P (sI (sI σ o0 0 (maxI ((gI σ o0 0) - x1) 0)) o0 3 0)) ∧ (¬ (y3 ≤ 0) → P (sI (sI σ o0 0 (maxI ((gI σ o0 0) - x1) 0)) o0 3 1))) ∧ (¬ (gI σ o0 1 = 0) → (0 < gI σ o0 2 → (0 < gI σ o0 2 ∧ gI σ o0 2 < 2147483648) ∧ (0 ≤ y3 ∧ y3 < 2147483648) ∧ R32 (y3 / (gI σ o0 2)) ∧ R32 ((gI σ o0 1) - (minI (gI σ o0 1) (y3 / (gI σ o0 2)))) ∧ (¬ (gI σ o0 1) - (minI (gI σ o0 1) (y3 / (gI σ o0 2))) = 0 → P (sI (sI (sI σ o0 0 (maxI ((gI σ o0 0) - x1) 0)) o0 1 ((gI σ o0 1) - (minI (gI σ o0 1) (y3 / (gI σ o0 2))))) o0 3 0)) ∧ ((gI σ o0 1) - (minI (gI σ o0 1) (y3 / (gI σ o0 2))) = 0 → P (sI (sI (sI σ o0 0 (maxI ((gI σ o0 0) - x1) 0)) o0 1 ((gI σ o0 1) - (minI (gI σ o0 1) (y3 / (gI σ o0 2))))) o0 3 1))) ∧ (¬ (0 < gI σ o0 2) → (y3 ≤ 0 → P (sI (sI σ o0 0 (maxI ((gI σ o0 0) - x1) 0)) o0 3 0)) ∧ (¬ (y3 ≤ 0) → P (sI (sI σ o0 0 (maxI ((gI σ o0 0) - x1) 0)) o0 3 1)))))) :
    ZkV X M_X2_spend (d + 1) n [.ref (zB X + o0), iV x1] σ P := by
  refine zk_of (ls := [some (.ref (zB X + o0)), some (iV x1), none]) pl_RX2 (Nat.le_of_ble_eq_true rfl) rfl (fun k0 => ?_)
  unfold Zn
  refine r_iload_n dX2_spend_0 rfl ?_
  refine r_aload_n dX2_spend_1 rfl ?_
  refine r_getI dX2_spend_2 kf_RX2_9 (zC_lt hc0 hn) (zC_s hc0) (Or.inl rfl) rfl ?_
  refine r_isub dX2_spend_5 ?_
  refine r_iconst dX2_spend_6 ?_
  obtain ⟨h1, h2⟩ := h
  refine r_mmax dX2_spend_7 ka_RX2_25 kq_max h1 (r32c rfl) (zFits_rm d n n n (Nat.le_refl n)) (Nat.le_of_ble_eq_true rfl) ?_
  refine r_name (fun y3 e4 => ?_)
  have h5 := h2 y3 e4
  refine r_istore_n dX2_spend_10 rfl rfl ?_
  refine r_aload_n dX2_spend_11 rfl ?_
  refine r_aload_n dX2_spend_12 rfl ?_
  refine r_getI dX2_spend_13 kf_RX2_9 (zC_lt hc0 hn) (zC_s hc0) (Or.inl rfl) rfl ?_
  refine r_iload_n dX2_spend_16 rfl ?_
  refine r_isub dX2_spend_17 ?_
  refine r_iconst dX2_spend_18 ?_
  obtain ⟨h6, h7⟩ := h5
  refine r_mmax dX2_spend_19 ka_RX2_25 kq_max h6 (r32c rfl) (zFits_rm d n n n (Nat.le_refl n)) (Nat.le_of_ble_eq_true rfl) ?_
  refine r_putI dX2_spend_22 kf_RX2_9 (zC_lt hc0 hn) (zC_s hc0) rfl (Or.inl rfl) ?_
  have k8 := zok_o (i := 0) (x := maxI ((gI σ o0 0) - x1) 0) k0 (zC_s hc0) (r32_max h6 (r32c rfl))
  refine r_aload_n dX2_spend_25 rfl ?_
  refine r_getI dX2_spend_26 kf_RX2_15 (zC_lt hc0 hn) (zC_s hc0) (Or.inl rfl) (gI_f (by decide)) ?_
  refine r_if_eq (t := 39) dX2_spend_29 rfl (k0.2.1 _ _)  (fun c9 => ?_) (fun c10 => ?_)
  · have h11 := h7.1 c9
    refine r_aload_n dX2_spend_39 rfl ?_
    refine r_iload_n dX2_spend_40 rfl ?_
    refine r_if_le (t := 48) dX2_spend_41 rfl (by rw [e4]; exact (r32_max h1 (r32c rfl)))  (fun c12 => ?_) (fun c13 => ?_)
    · have h14 := h11.1 c12
      refine r_iconst dX2_spend_48 ?_
      refine r_putI dX2_spend_49 kf_RX2_21 (zC_lt hc0 hn) (zC_s hc0) rfl (Or.inr ⟨rfl, (Or.inl rfl)⟩) ?_
      have k15 := zok_o (i := 3) (x := 0) k8 (zC_s hc0) (r32c rfl)
      exact r_return dX2_spend_52 rfl ⟨k15, rfl, h14⟩
    · have h16 := h11.2 c13
      refine r_iconst dX2_spend_44 ?_
      refine r_goto (t := 49) dX2_spend_45 rfl ?_
      refine r_putI dX2_spend_49 kf_RX2_21 (zC_lt hc0 hn) (zC_s hc0) rfl (Or.inr ⟨rfl, (Or.inr rfl)⟩) ?_
      have k17 := zok_o (i := 3) (x := 1) k8 (zC_s hc0) (r32c rfl)
      exact r_return dX2_spend_52 rfl ⟨k17, rfl, h16⟩
  · have h18 := h7.2 c10
    refine r_aload_n dX2_spend_32 rfl ?_
    refine r_getI dX2_spend_33 kf_RX2_18 (zC_lt hc0 hn) (zC_s hc0) (Or.inl rfl) (gI_f (by decide)) ?_
    refine r_if_gt (t := 53) dX2_spend_36 rfl (k0.2.1 _ _)  (fun c19 => ?_) (fun c20 => ?_)
    · have h21 := h18.1 c19
      refine r_aload_n dX2_spend_53 rfl ?_
      refine r_dup dX2_spend_54 rfl ?_
      refine r_getI dX2_spend_55 kf_RX2_15 (zC_lt hc0 hn) (zC_s hc0) (Or.inl rfl) (gI_f (by decide)) ?_
      refine r_aload_n dX2_spend_58 rfl ?_
      refine r_getI dX2_spend_59 kf_RX2_15 (zC_lt hc0 hn) (zC_s hc0) (Or.inl rfl) (gI_f (by decide)) ?_
      refine r_iload_n dX2_spend_62 rfl ?_
      refine r_aload_n dX2_spend_63 rfl ?_
      refine r_getI dX2_spend_64 kf_RX2_18 (zC_lt hc0 hn) (zC_s hc0) (Or.inl rfl) (gI_f (by decide)) ?_
      obtain ⟨h22, h23⟩ := h21
      obtain ⟨h24, h25⟩ := h23
      refine r_idiv dX2_spend_67 h24.1 h24.2 h22.1 h22.2 ?_
      obtain ⟨h26, h27⟩ := h25
      refine r_mmin dX2_spend_68 ka_RX2_31 kq_min (k0.2.1 _ _) h26 (zFits_rm d n n n (Nat.le_refl n)) (Nat.le_of_ble_eq_true rfl) ?_
      refine r_isub dX2_spend_71 ?_
      obtain ⟨h28, h29⟩ := h27
      refine r_putI dX2_spend_72 kf_RX2_15 (zC_lt hc0 hn) (zC_s hc0) rfl (Or.inl rfl) ?_
      have k30 := zok_o (i := 1) (x := (gI σ o0 1) - (minI (gI σ o0 1) (y3 / (gI σ o0 2)))) k8 (zC_s hc0) h28
      refine r_aload_n dX2_spend_75 rfl ?_
      refine r_aload_n dX2_spend_76 rfl ?_
      refine r_getI dX2_spend_77 kf_RX2_15 (zC_lt hc0 hn) (zC_s hc0) (Or.inl rfl) (gI_same _ _ _ _) ?_
      refine r_if_ne (t := 87) dX2_spend_80 rfl h28  (fun c31 => ?_) (fun c32 => ?_)
      · have h33 := h29.1 c31
        refine r_iconst dX2_spend_87 ?_
        refine r_putI dX2_spend_88 kf_RX2_21 (zC_lt hc0 hn) (zC_s hc0) rfl (Or.inr ⟨rfl, (Or.inl rfl)⟩) ?_
        have k34 := zok_o (i := 3) (x := 0) k30 (zC_s hc0) (r32c rfl)
        exact r_return dX2_spend_91 rfl ⟨k34, rfl, h33⟩
      · have h35 := h29.2 c32
        refine r_iconst dX2_spend_83 ?_
        refine r_goto (t := 88) dX2_spend_84 rfl ?_
        refine r_putI dX2_spend_88 kf_RX2_21 (zC_lt hc0 hn) (zC_s hc0) rfl (Or.inr ⟨rfl, (Or.inr rfl)⟩) ?_
        have k36 := zok_o (i := 3) (x := 1) k30 (zC_s hc0) (r32c rfl)
        exact r_return dX2_spend_91 rfl ⟨k36, rfl, h35⟩
    · have h37 := h18.2 c20
      refine r_aload_n dX2_spend_39 rfl ?_
      refine r_iload_n dX2_spend_40 rfl ?_
      refine r_if_le (t := 48) dX2_spend_41 rfl (by rw [e4]; exact (r32_max h1 (r32c rfl)))  (fun c38 => ?_) (fun c39 => ?_)
      · have h40 := h37.1 c38
        refine r_iconst dX2_spend_48 ?_
        refine r_putI dX2_spend_49 kf_RX2_21 (zC_lt hc0 hn) (zC_s hc0) rfl (Or.inr ⟨rfl, (Or.inl rfl)⟩) ?_
        have k41 := zok_o (i := 3) (x := 0) k8 (zC_s hc0) (r32c rfl)
        exact r_return dX2_spend_52 rfl ⟨k41, rfl, h40⟩
      · have h42 := h37.2 c39
        refine r_iconst dX2_spend_44 ?_
        refine r_goto (t := 49) dX2_spend_45 rfl ?_
        refine r_putI dX2_spend_49 kf_RX2_21 (zC_lt hc0 hn) (zC_s hc0) rfl (Or.inr ⟨rfl, (Or.inr rfl)⟩) ?_
        have k43 := zok_o (i := 3) (x := 1) k8 (zC_s hc0) (r32c rfl)
        exact r_return dX2_spend_52 rfl ⟨k43, rfl, h42⟩
/-! StoneRoom$Clock.tell -/
theorem dX2_tell_0 : decode M_X2_tell.2.1 0 = .ok (.iload_n 1, 1) := by decide +kernel
theorem dX2_tell_1 : decode M_X2_tell.2.1 1 = .ok (.tableswitch 50 0 2 #[27, 32, 37], 27) := by decide +kernel
theorem dX2_tell_28 : decode M_X2_tell.2.1 28 = .ok (.aload_n 0, 1) := by decide +kernel
theorem dX2_tell_29 : decode M_X2_tell.2.1 29 = .ok (.getfield 9, 3) := by decide +kernel
theorem dX2_tell_32 : decode M_X2_tell.2.1 32 = .ok (.ireturn, 1) := by decide +kernel
theorem dX2_tell_33 : decode M_X2_tell.2.1 33 = .ok (.aload_n 0, 1) := by decide +kernel
theorem dX2_tell_34 : decode M_X2_tell.2.1 34 = .ok (.getfield 15, 3) := by decide +kernel
theorem dX2_tell_37 : decode M_X2_tell.2.1 37 = .ok (.ireturn, 1) := by decide +kernel
theorem dX2_tell_38 : decode M_X2_tell.2.1 38 = .ok (.aload_n 0, 1) := by decide +kernel
theorem dX2_tell_39 : decode M_X2_tell.2.1 39 = .ok (.getfield 21, 3) := by decide +kernel
theorem dX2_tell_42 : decode M_X2_tell.2.1 42 = .ok (.ifCond .eq 7, 3) := by decide +kernel
theorem dX2_tell_45 : decode M_X2_tell.2.1 45 = .ok (.iconst 1, 1) := by decide +kernel
theorem dX2_tell_46 : decode M_X2_tell.2.1 46 = .ok (.goto 4, 3) := by decide +kernel
theorem dX2_tell_49 : decode M_X2_tell.2.1 49 = .ok (.iconst 0, 1) := by decide +kernel
theorem dX2_tell_50 : decode M_X2_tell.2.1 50 = .ok (.ireturn, 1) := by decide +kernel
theorem dX2_tell_51 : decode M_X2_tell.2.1 51 = .ok (.iconst (-1), 1) := by decide +kernel
theorem dX2_tell_52 : decode M_X2_tell.2.1 52 = .ok (.ireturn, 1) := by decide +kernel
theorem w_X2_tell {X : ZX} {d n : Nat} {P : Int → ZSto → Prop} {o0 : Nat} {x1 : Int} {σ : ZSto} (hn : 73 ≤ n) (hc0 : zIsC o0) (hx1 : R32 x1)
    (h : (x1 = 0 → P (gI σ o0 0) σ) ∧ (x1 = 1 → P (gI σ o0 1) σ) ∧ (x1 = 2 → (gI σ o0 3 = 0 → P 0 σ) ∧ (¬ (gI σ o0 3 = 0) → P 1 σ)) ∧ ((x1 < 0 ∨ 2 < x1) → P ((-1)) σ)) :
    ZkI X M_X2_tell (d + 1) n [.ref (zB X + o0), iV x1] σ P := by
  refine zk_of (ls := [some (.ref (zB X + o0)), some (iV x1)]) pl_RX2 (Nat.le_of_ble_eq_true rfl) rfl (fun k0 => ?_)
  unfold Zn
  refine r_iload_n dX2_tell_0 rfl ?_
  by_cases c1 : x1 = 0
  · have h2 := h.1 c1
    refine r_tabIn (t := 28) dX2_tell_1 hx1 (by rw [c1]; decide) (by rw [c1]; decide) (by rw [c1]; rfl) rfl ?_
    refine r_aload_n dX2_tell_28 rfl ?_
    refine r_getI dX2_tell_29 kf_RX2_9 (zC_lt hc0 hn) (zC_s hc0) (Or.inl rfl) rfl ?_
    exact r_ireturn dX2_tell_32 rfl ⟨k0, _, rfl, (k0.2.1 _ _), h2⟩
  by_cases c3 : x1 = 1
  · have h4 := h.2.1 c3
    refine r_tabIn (t := 33) dX2_tell_1 hx1 (by rw [c3]; decide) (by rw [c3]; decide) (by rw [c3]; rfl) rfl ?_
    refine r_aload_n dX2_tell_33 rfl ?_
    refine r_getI dX2_tell_34 kf_RX2_15 (zC_lt hc0 hn) (zC_s hc0) (Or.inl rfl) rfl ?_
    exact r_ireturn dX2_tell_37 rfl ⟨k0, _, rfl, (k0.2.1 _ _), h4⟩
  by_cases c5 : x1 = 2
  · have h6 := h.2.2.1 c5
    refine r_tabIn (t := 38) dX2_tell_1 hx1 (by rw [c5]; decide) (by rw [c5]; decide) (by rw [c5]; rfl) rfl ?_
    refine r_aload_n dX2_tell_38 rfl ?_
    refine r_getI dX2_tell_39 kf_RX2_21 (zC_lt hc0 hn) (zC_s hc0) (Or.inr rfl) rfl ?_
    refine r_if_eq (t := 49) dX2_tell_42 rfl (k0.2.1 _ _)  (fun c7 => ?_) (fun c8 => ?_)
    · have h9 := h6.1 c7
      refine r_iconst dX2_tell_49 ?_
      exact r_ireturn dX2_tell_50 rfl ⟨k0, _, rfl, (r32c rfl), h9⟩
    · have h10 := h6.2 c8
      refine r_iconst dX2_tell_45 ?_
      refine r_goto (t := 50) dX2_tell_46 rfl ?_
      exact r_ireturn dX2_tell_50 rfl ⟨k0, _, rfl, (r32c rfl), h10⟩
  · have c12 : (x1 < 0 ∨ 2 < x1) := by omega
    have h11 := h.2.2.2 c12
    refine r_tabOut (t := 51) dX2_tell_1 hx1 c12 rfl ?_
    refine r_iconst dX2_tell_51 ?_
    exact r_ireturn dX2_tell_52 rfl ⟨k0, _, rfl, (r32c rfl), h11⟩
