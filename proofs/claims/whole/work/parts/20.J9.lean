/-! java/lang/Math.abs -/
theorem dJ9_abs_0f7a4_0 : decode M_J9_abs_0f7a4.2.1 0 = .ok (.iload_n 0, 1) := by decide +kernel
theorem dJ9_abs_0f7a4_1 : decode M_J9_abs_0f7a4.2.1 1 = .ok (.ifCond .ge 8, 3) := by decide +kernel
theorem dJ9_abs_0f7a4_4 : decode M_J9_abs_0f7a4.2.1 4 = .ok (.iload_n 0, 1) := by decide +kernel
theorem dJ9_abs_0f7a4_5 : decode M_J9_abs_0f7a4.2.1 5 = .ok (.ineg, 1) := by decide +kernel
theorem dJ9_abs_0f7a4_6 : decode M_J9_abs_0f7a4.2.1 6 = .ok (.goto 4, 3) := by decide +kernel
theorem dJ9_abs_0f7a4_9 : decode M_J9_abs_0f7a4.2.1 9 = .ok (.iload_n 0, 1) := by decide +kernel
theorem dJ9_abs_0f7a4_10 : decode M_J9_abs_0f7a4.2.1 10 = .ok (.ireturn, 1) := by decide +kernel
theorem w_J9_abs_0f7a4 {X : ZX} {d n : Nat} {P : Int → ZSto → Prop} {x0 : Int} {σ : ZSto} (hn : 73 ≤ n)  (hx0 : R32 x0)
    (h : (0 ≤ x0 → P x0 σ) ∧ (¬ (0 ≤ x0) → R32 (-x0) ∧ P (-x0) σ)) :
    ZkI X M_J9_abs_0f7a4 (d + 1) n [iV x0] σ P := by
  refine zk_of (ls := [some (iV x0)]) rfl (Nat.le_of_ble_eq_true rfl) rfl (fun k0 => ?_)
  unfold Zn
  refine r_iload_n dJ9_abs_0f7a4_0 rfl ?_
  refine r_if_ge (t := 9) dJ9_abs_0f7a4_1 rfl hx0  (fun c1 => ?_) (fun c2 => ?_)
  · have h3 := h.1 c1
    refine r_iload_n dJ9_abs_0f7a4_9 rfl ?_
    exact r_ireturn dJ9_abs_0f7a4_10 rfl ⟨k0, _, rfl, hx0, h3⟩
  · have h4 := h.2 c2
    refine r_iload_n dJ9_abs_0f7a4_4 rfl ?_
    refine r_ineg dJ9_abs_0f7a4_5 ?_
    refine r_goto (t := 10) dJ9_abs_0f7a4_6 rfl ?_
    obtain ⟨h5, h6⟩ := h4
    exact r_ireturn dJ9_abs_0f7a4_10 rfl ⟨k0, _, rfl, h5, h6⟩
/-! java/lang/Math.max -/
theorem dJ9_max_7cf53_0 : decode M_J9_max_7cf53.2.1 0 = .ok (.iload_n 0, 1) := by decide +kernel
theorem dJ9_max_7cf53_1 : decode M_J9_max_7cf53.2.1 1 = .ok (.iload_n 1, 1) := by decide +kernel
theorem dJ9_max_7cf53_2 : decode M_J9_max_7cf53.2.1 2 = .ok (.if_icmp .lt 7, 3) := by decide +kernel
theorem dJ9_max_7cf53_5 : decode M_J9_max_7cf53.2.1 5 = .ok (.iload_n 0, 1) := by decide +kernel
theorem dJ9_max_7cf53_6 : decode M_J9_max_7cf53.2.1 6 = .ok (.goto 4, 3) := by decide +kernel
theorem dJ9_max_7cf53_9 : decode M_J9_max_7cf53.2.1 9 = .ok (.iload_n 1, 1) := by decide +kernel
theorem dJ9_max_7cf53_10 : decode M_J9_max_7cf53.2.1 10 = .ok (.ireturn, 1) := by decide +kernel
theorem w_J9_max_7cf53 {X : ZX} {d n : Nat} {P : Int → ZSto → Prop} {x0 : Int} {x1 : Int} {σ : ZSto} (hn : 73 ≤ n)  (hx0 : R32 x0) (hx1 : R32 x1)
    (h : (x0 < x1 → P x1 σ) ∧ (¬ (x0 < x1) → P x0 σ)) :
    ZkI X M_J9_max_7cf53 (d + 1) n [iV x0, iV x1] σ P := by
  refine zk_of (ls := [some (iV x0), some (iV x1)]) rfl (Nat.le_of_ble_eq_true rfl) rfl (fun k0 => ?_)
  unfold Zn
  refine r_iload_n dJ9_max_7cf53_0 rfl ?_
  refine r_iload_n dJ9_max_7cf53_1 rfl ?_
  refine r_icmp_lt (t := 9) dJ9_max_7cf53_2 rfl hx0 hx1 (fun c1 => ?_) (fun c2 => ?_)
  · have h3 := h.1 c1
    refine r_iload_n dJ9_max_7cf53_9 rfl ?_
    exact r_ireturn dJ9_max_7cf53_10 rfl ⟨k0, _, rfl, hx1, h3⟩
  · have h4 := h.2 c2
    refine r_iload_n dJ9_max_7cf53_5 rfl ?_
    refine r_goto (t := 10) dJ9_max_7cf53_6 rfl ?_
    exact r_ireturn dJ9_max_7cf53_10 rfl ⟨k0, _, rfl, hx0, h4⟩
/-! java/lang/Math.min -/
theorem dJ9_min_7cf53_0 : decode M_J9_min_7cf53.2.1 0 = .ok (.iload_n 0, 1) := by decide +kernel
theorem dJ9_min_7cf53_1 : decode M_J9_min_7cf53.2.1 1 = .ok (.iload_n 1, 1) := by decide +kernel
theorem dJ9_min_7cf53_2 : decode M_J9_min_7cf53.2.1 2 = .ok (.if_icmp .gt 7, 3) := by decide +kernel
theorem dJ9_min_7cf53_5 : decode M_J9_min_7cf53.2.1 5 = .ok (.iload_n 0, 1) := by decide +kernel
theorem dJ9_min_7cf53_6 : decode M_J9_min_7cf53.2.1 6 = .ok (.goto 4, 3) := by decide +kernel
theorem dJ9_min_7cf53_9 : decode M_J9_min_7cf53.2.1 9 = .ok (.iload_n 1, 1) := by decide +kernel
theorem dJ9_min_7cf53_10 : decode M_J9_min_7cf53.2.1 10 = .ok (.ireturn, 1) := by decide +kernel
theorem w_J9_min_7cf53 {X : ZX} {d n : Nat} {P : Int → ZSto → Prop} {x0 : Int} {x1 : Int} {σ : ZSto} (hn : 73 ≤ n)  (hx0 : R32 x0) (hx1 : R32 x1)
    (h : (x1 < x0 → P x1 σ) ∧ (¬ (x1 < x0) → P x0 σ)) :
    ZkI X M_J9_min_7cf53 (d + 1) n [iV x0, iV x1] σ P := by
  refine zk_of (ls := [some (iV x0), some (iV x1)]) rfl (Nat.le_of_ble_eq_true rfl) rfl (fun k0 => ?_)
  unfold Zn
  refine r_iload_n dJ9_min_7cf53_0 rfl ?_
  refine r_iload_n dJ9_min_7cf53_1 rfl ?_
  refine r_icmp_gt (t := 9) dJ9_min_7cf53_2 rfl hx0 hx1 (fun c1 => ?_) (fun c2 => ?_)
  · have h3 := h.1 c1
    refine r_iload_n dJ9_min_7cf53_9 rfl ?_
    exact r_ireturn dJ9_min_7cf53_10 rfl ⟨k0, _, rfl, hx1, h3⟩
  · have h4 := h.2 c2
    refine r_iload_n dJ9_min_7cf53_5 rfl ?_
    refine r_goto (t := 10) dJ9_min_7cf53_6 rfl ?_
    exact r_ireturn dJ9_min_7cf53_10 rfl ⟨k0, _, rfl, hx0, h4⟩
