/-! java/util/Arrays.fill -/
theorem dJ7_fill_d0a16_0 : decode M_J7_fill_d0a16.2.1 0 = .ok (.iconst 0, 1) := by decide +kernel
theorem dJ7_fill_d0a16_1 : decode M_J7_fill_d0a16.2.1 1 = .ok (.istore_n 3, 1) := by decide +kernel
theorem dJ7_fill_d0a16_2 : decode M_J7_fill_d0a16.2.1 2 = .ok (.aload_n 0, 1) := by decide +kernel
theorem dJ7_fill_d0a16_3 : decode M_J7_fill_d0a16.2.1 3 = .ok (.arraylength, 1) := by decide +kernel
theorem dJ7_fill_d0a16_4 : decode M_J7_fill_d0a16.2.1 4 = .ok (.istore 4, 2) := by decide +kernel
theorem dJ7_fill_d0a16_6 : decode M_J7_fill_d0a16.2.1 6 = .ok (.iload_n 3, 1) := by decide +kernel
theorem dJ7_fill_d0a16_7 : decode M_J7_fill_d0a16.2.1 7 = .ok (.iload 4, 2) := by decide +kernel
theorem dJ7_fill_d0a16_9 : decode M_J7_fill_d0a16.2.1 9 = .ok (.if_icmp .ge 13, 3) := by decide +kernel
theorem dJ7_fill_d0a16_12 : decode M_J7_fill_d0a16.2.1 12 = .ok (.aload_n 0, 1) := by decide +kernel
theorem dJ7_fill_d0a16_13 : decode M_J7_fill_d0a16.2.1 13 = .ok (.iload_n 3, 1) := by decide +kernel
theorem dJ7_fill_d0a16_14 : decode M_J7_fill_d0a16.2.1 14 = .ok (.lload_n 1, 1) := by decide +kernel
theorem dJ7_fill_d0a16_15 : decode M_J7_fill_d0a16.2.1 15 = .ok (.lastore, 1) := by decide +kernel
theorem dJ7_fill_d0a16_16 : decode M_J7_fill_d0a16.2.1 16 = .ok (.iinc 3 1, 3) := by decide +kernel
theorem dJ7_fill_d0a16_19 : decode M_J7_fill_d0a16.2.1 19 = .ok (.goto (-13), 3) := by decide +kernel
theorem dJ7_fill_d0a16_22 : decode M_J7_fill_d0a16.2.1 22 = .ok (.return_, 1) := by decide +kernel
def L_J7_fill_d0a16_6 (X : ZX) (d n : Nat) (P : Option Value → ZSto → Prop) (a0 : Nat) (z0 : Nat) (l1 : Int64) (x3 : Int) (x4 : Int) (σ : ZSto) : Prop := R32 x3 → R32 x4 → ZOk n σ → Zn X M_J7_fill_d0a16 d n P 6 [some (.ref (zB X + a0)), some (.long l1), none, some (iV x3), some (iV x4)] [] σ
theorem w_J7_fill_d0a16 {X : ZX} {d n : Nat} {P : ZSto → Prop} {a0 : Nat} {z0 : Nat} {l1 : Int64} {σ : ZSto} (hn : 73 ≤ n) (ha0 : a0 < n) (hs0 : SH a0 = some (.inl (.long, z0))) 
    (h : L_J7_fill_d0a16_6 X d n (zpV P) a0 z0 l1 0 ((z0 : Int)) σ) :
    ZkV X M_J7_fill_d0a16 (d + 1) n [.ref (zB X + a0), .long l1] σ P := by
  refine zk_of (ls := [some (.ref (zB X + a0)), some (.long l1), none, none, none]) pl_RJ7 (Nat.le_of_ble_eq_true rfl) rfl (fun k0 => ?_)
  unfold Zn
  refine r_iconst dJ7_fill_d0a16_0 ?_
  refine r_istore_n dJ7_fill_d0a16_1 rfl rfl ?_
  refine r_aload_n dJ7_fill_d0a16_2 rfl ?_
  refine r_alen dJ7_fill_d0a16_3 ha0 hs0 (Or.inr (Or.inr (Or.inr rfl))) ?_
  refine r_istore dJ7_fill_d0a16_4 rfl rfl ?_
  exact r_mask [true, true, false, true, true] rfl (h (r32c rfl) (r32_len hs0) k0)
theorem b_J7_fill_d0a16_6 {X : ZX} {d n : Nat} {P : ZSto → Prop} {a0 : Nat} {z0 : Nat} {l1 : Int64} {x3 : Int} {x4 : Int} {σ : ZSto} (hn : 73 ≤ n) (ha0 : a0 < n) (hs0 : SH a0 = some (.inl (.long, z0)))
    (h : (x4 ≤ x3 → P σ) ∧ (¬ (x4 ≤ x3) → (0 ≤ x3 ∧ x3 < z0) ∧ R32 (x3 + 1) ∧ L_J7_fill_d0a16_6 X d n (zpV P) a0 z0 l1 (x3 + 1) x4 (sL σ a0 x3.toNat l1))) :
    L_J7_fill_d0a16_6 X d n (zpV P) a0 z0 l1 x3 x4 σ := by
  intro hx3 hx4 k0
  unfold Zn
  refine r_iload_n dJ7_fill_d0a16_6 rfl ?_
  refine r_iload dJ7_fill_d0a16_7 rfl ?_
  refine r_icmp_ge (t := 22) dJ7_fill_d0a16_9 rfl hx3 hx4 (fun c1 => ?_) (fun c2 => ?_)
  · have h3 := h.1 c1
    exact r_return dJ7_fill_d0a16_22 rfl ⟨k0, rfl, h3⟩
  · have h4 := h.2 c2
    refine r_aload_n dJ7_fill_d0a16_12 rfl ?_
    refine r_iload_n dJ7_fill_d0a16_13 rfl ?_
    refine r_lload_n dJ7_fill_d0a16_14 rfl ?_
    obtain ⟨h5, h6⟩ := h4
    refine r_lastore dJ7_fill_d0a16_15 ha0 hs0 h5.1 h5.2 ?_
    have k7 := zok_l (a := a0) (i := x3.toNat) (x := l1) k0
    refine r_iinc dJ7_fill_d0a16_16 rfl rfl rfl ?_
    refine r_goto (t := 6) dJ7_fill_d0a16_19 rfl ?_
    obtain ⟨h8, h9⟩ := h6
    exact r_mask [true, true, false, true, true] rfl (h9 h8 hx4 k7)
/-! java/util/Arrays.fill -/
theorem dJ7_fill_53178_0 : decode M_J7_fill_53178.2.1 0 = .ok (.iconst 0, 1) := by decide +kernel
theorem dJ7_fill_53178_1 : decode M_J7_fill_53178.2.1 1 = .ok (.istore_n 2, 1) := by decide +kernel
theorem dJ7_fill_53178_2 : decode M_J7_fill_53178.2.1 2 = .ok (.aload_n 0, 1) := by decide +kernel
theorem dJ7_fill_53178_3 : decode M_J7_fill_53178.2.1 3 = .ok (.arraylength, 1) := by decide +kernel
theorem dJ7_fill_53178_4 : decode M_J7_fill_53178.2.1 4 = .ok (.istore_n 3, 1) := by decide +kernel
theorem dJ7_fill_53178_5 : decode M_J7_fill_53178.2.1 5 = .ok (.iload_n 2, 1) := by decide +kernel
theorem dJ7_fill_53178_6 : decode M_J7_fill_53178.2.1 6 = .ok (.iload_n 3, 1) := by decide +kernel
theorem dJ7_fill_53178_7 : decode M_J7_fill_53178.2.1 7 = .ok (.if_icmp .ge 13, 3) := by decide +kernel
theorem dJ7_fill_53178_10 : decode M_J7_fill_53178.2.1 10 = .ok (.aload_n 0, 1) := by decide +kernel
theorem dJ7_fill_53178_11 : decode M_J7_fill_53178.2.1 11 = .ok (.iload_n 2, 1) := by decide +kernel
theorem dJ7_fill_53178_12 : decode M_J7_fill_53178.2.1 12 = .ok (.iload_n 1, 1) := by decide +kernel
theorem dJ7_fill_53178_13 : decode M_J7_fill_53178.2.1 13 = .ok (.iastore, 1) := by decide +kernel
theorem dJ7_fill_53178_14 : decode M_J7_fill_53178.2.1 14 = .ok (.iinc 2 1, 3) := by decide +kernel
theorem dJ7_fill_53178_17 : decode M_J7_fill_53178.2.1 17 = .ok (.goto (-12), 3) := by decide +kernel
theorem dJ7_fill_53178_20 : decode M_J7_fill_53178.2.1 20 = .ok (.return_, 1) := by decide +kernel
def L_J7_fill_53178_5 (X : ZX) (d n : Nat) (P : Option Value → ZSto → Prop) (a0 : Nat) (z0 : Nat) (x1 : Int) (x2 : Int) (x3 : Int) (σ : ZSto) : Prop := R32 x1 → R32 x2 → R32 x3 → ZOk n σ → Zn X M_J7_fill_53178 d n P 5 [some (.ref (zB X + a0)), some (iV x1), some (iV x2), some (iV x3)] [] σ
theorem w_J7_fill_53178 {X : ZX} {d n : Nat} {P : ZSto → Prop} {a0 : Nat} {z0 : Nat} {x1 : Int} {σ : ZSto} (hn : 73 ≤ n) (ha0 : a0 < n) (hs0 : SH a0 = some (.inl (.int, z0))) (hx1 : R32 x1)
    (h : L_J7_fill_53178_5 X d n (zpV P) a0 z0 x1 0 ((z0 : Int)) σ) :
    ZkV X M_J7_fill_53178 (d + 1) n [.ref (zB X + a0), iV x1] σ P := by
  refine zk_of (ls := [some (.ref (zB X + a0)), some (iV x1), none, none]) pl_RJ7 (Nat.le_of_ble_eq_true rfl) rfl (fun k0 => ?_)
  unfold Zn
  refine r_iconst dJ7_fill_53178_0 ?_
  refine r_istore_n dJ7_fill_53178_1 rfl rfl ?_
  refine r_aload_n dJ7_fill_53178_2 rfl ?_
  refine r_alen dJ7_fill_53178_3 ha0 hs0 (Or.inl rfl) ?_
  refine r_istore_n dJ7_fill_53178_4 rfl rfl ?_
  exact r_mask [true, true, true, true] rfl (h hx1 (r32c rfl) (r32_len hs0) k0)
theorem b_J7_fill_53178_5 {X : ZX} {d n : Nat} {P : ZSto → Prop} {a0 : Nat} {z0 : Nat} {x1 : Int} {x2 : Int} {x3 : Int} {σ : ZSto} (hn : 73 ≤ n) (ha0 : a0 < n) (hs0 : SH a0 = some (.inl (.int, z0)))
    (h : (x3 ≤ x2 → P σ) ∧ (¬ (x3 ≤ x2) → (0 ≤ x2 ∧ x2 < z0) ∧ R32 (x2 + 1) ∧ L_J7_fill_53178_5 X d n (zpV P) a0 z0 x1 (x2 + 1) x3 (sI σ a0 x2.toNat x1))) :
    L_J7_fill_53178_5 X d n (zpV P) a0 z0 x1 x2 x3 σ := by
  intro hx1 hx2 hx3 k0
  unfold Zn
  refine r_iload_n dJ7_fill_53178_5 rfl ?_
  refine r_iload_n dJ7_fill_53178_6 rfl ?_
  refine r_icmp_ge (t := 20) dJ7_fill_53178_7 rfl hx2 hx3 (fun c1 => ?_) (fun c2 => ?_)
  · have h3 := h.1 c1
    exact r_return dJ7_fill_53178_20 rfl ⟨k0, rfl, h3⟩
  · have h4 := h.2 c2
    refine r_aload_n dJ7_fill_53178_10 rfl ?_
    refine r_iload_n dJ7_fill_53178_11 rfl ?_
    refine r_iload_n dJ7_fill_53178_12 rfl ?_
    obtain ⟨h5, h6⟩ := h4
    refine r_iastore dJ7_fill_53178_13 ha0 hs0 h5.1 h5.2 ?_
    have k7 := zok_i (i := x2.toNat) (x := x1) k0 hs0 hx1
    refine r_iinc dJ7_fill_53178_14 rfl rfl rfl ?_
    refine r_goto (t := 5) dJ7_fill_53178_17 rfl ?_
    obtain ⟨h8, h9⟩ := h6
    exact r_mask [true, true, true, true] rfl (h9 hx1 h8 hx3 k7)
/-! java/util/Arrays.fill -/
theorem dJ7_fill_031fb_0 : decode M_J7_fill_031fb.2.1 0 = .ok (.iconst 0, 1) := by decide +kernel
theorem dJ7_fill_031fb_1 : decode M_J7_fill_031fb.2.1 1 = .ok (.istore_n 2, 1) := by decide +kernel
theorem dJ7_fill_031fb_2 : decode M_J7_fill_031fb.2.1 2 = .ok (.aload_n 0, 1) := by decide +kernel
theorem dJ7_fill_031fb_3 : decode M_J7_fill_031fb.2.1 3 = .ok (.arraylength, 1) := by decide +kernel
theorem dJ7_fill_031fb_4 : decode M_J7_fill_031fb.2.1 4 = .ok (.istore_n 3, 1) := by decide +kernel
theorem dJ7_fill_031fb_5 : decode M_J7_fill_031fb.2.1 5 = .ok (.iload_n 2, 1) := by decide +kernel
theorem dJ7_fill_031fb_6 : decode M_J7_fill_031fb.2.1 6 = .ok (.iload_n 3, 1) := by decide +kernel
theorem dJ7_fill_031fb_7 : decode M_J7_fill_031fb.2.1 7 = .ok (.if_icmp .ge 13, 3) := by decide +kernel
theorem dJ7_fill_031fb_10 : decode M_J7_fill_031fb.2.1 10 = .ok (.aload_n 0, 1) := by decide +kernel
theorem dJ7_fill_031fb_11 : decode M_J7_fill_031fb.2.1 11 = .ok (.iload_n 2, 1) := by decide +kernel
theorem dJ7_fill_031fb_12 : decode M_J7_fill_031fb.2.1 12 = .ok (.iload_n 1, 1) := by decide +kernel
theorem dJ7_fill_031fb_13 : decode M_J7_fill_031fb.2.1 13 = .ok (.bastore, 1) := by decide +kernel
theorem dJ7_fill_031fb_14 : decode M_J7_fill_031fb.2.1 14 = .ok (.iinc 2 1, 3) := by decide +kernel
theorem dJ7_fill_031fb_17 : decode M_J7_fill_031fb.2.1 17 = .ok (.goto (-12), 3) := by decide +kernel
theorem dJ7_fill_031fb_20 : decode M_J7_fill_031fb.2.1 20 = .ok (.return_, 1) := by decide +kernel
def L_J7_fill_031fb_5 (X : ZX) (d n : Nat) (P : Option Value → ZSto → Prop) (a0 : Nat) (z0 : Nat) (x1 : Int) (x2 : Int) (x3 : Int) (σ : ZSto) : Prop := R32 x1 → R32 x2 → R32 x3 → ZOk n σ → Zn X M_J7_fill_031fb d n P 5 [some (.ref (zB X + a0)), some (iV x1), some (iV x2), some (iV x3)] [] σ
theorem w_J7_fill_031fb {X : ZX} {d n : Nat} {P : ZSto → Prop} {a0 : Nat} {z0 : Nat} {x1 : Int} {σ : ZSto} (hn : 73 ≤ n) (ha0 : a0 < n) (hs0 : SH a0 = some (.inl (.byte, z0))) (hx1 : R32 x1)
    (h : L_J7_fill_031fb_5 X d n (zpV P) a0 z0 x1 0 ((z0 : Int)) σ) :
    ZkV X M_J7_fill_031fb (d + 1) n [.ref (zB X + a0), iV x1] σ P := by
  refine zk_of (ls := [some (.ref (zB X + a0)), some (iV x1), none, none]) pl_RJ7 (Nat.le_of_ble_eq_true rfl) rfl (fun k0 => ?_)
  unfold Zn
  refine r_iconst dJ7_fill_031fb_0 ?_
  refine r_istore_n dJ7_fill_031fb_1 rfl rfl ?_
  refine r_aload_n dJ7_fill_031fb_2 rfl ?_
  refine r_alen dJ7_fill_031fb_3 ha0 hs0 (Or.inr (Or.inl rfl)) ?_
  refine r_istore_n dJ7_fill_031fb_4 rfl rfl ?_
  exact r_mask [true, true, true, true] rfl (h hx1 (r32c rfl) (r32_len hs0) k0)
theorem b_J7_fill_031fb_5 {X : ZX} {d n : Nat} {P : ZSto → Prop} {a0 : Nat} {z0 : Nat} {x1 : Int} {x2 : Int} {x3 : Int} {σ : ZSto} (hn : 73 ≤ n) (ha0 : a0 < n) (hs0 : SH a0 = some (.inl (.byte, z0)))
    (h : (x3 ≤ x2 → P σ) ∧ (¬ (x3 ≤ x2) → (0 ≤ x2 ∧ x2 < z0) ∧ (-128 ≤ x1 ∧ x1 < 128) ∧ R32 (x2 + 1) ∧ L_J7_fill_031fb_5 X d n (zpV P) a0 z0 x1 (x2 + 1) x3 (sI σ a0 x2.toNat x1))) :
    L_J7_fill_031fb_5 X d n (zpV P) a0 z0 x1 x2 x3 σ := by
  intro hx1 hx2 hx3 k0
  unfold Zn
  refine r_iload_n dJ7_fill_031fb_5 rfl ?_
  refine r_iload_n dJ7_fill_031fb_6 rfl ?_
  refine r_icmp_ge (t := 20) dJ7_fill_031fb_7 rfl hx2 hx3 (fun c1 => ?_) (fun c2 => ?_)
  · have h3 := h.1 c1
    exact r_return dJ7_fill_031fb_20 rfl ⟨k0, rfl, h3⟩
  · have h4 := h.2 c2
    refine r_aload_n dJ7_fill_031fb_10 rfl ?_
    refine r_iload_n dJ7_fill_031fb_11 rfl ?_
    refine r_iload_n dJ7_fill_031fb_12 rfl ?_
    obtain ⟨h5, h6⟩ := h4
    obtain ⟨h8, h9⟩ := h6
    refine r_bastore dJ7_fill_031fb_13 ha0 hs0 h5.1 h5.2 h8.1 h8.2 ?_
    have k7 := zok_b (i := x2.toNat) (x := x1) k0 hs0 h8.1 h8.2
    refine r_iinc dJ7_fill_031fb_14 rfl rfl rfl ?_
    refine r_goto (t := 5) dJ7_fill_031fb_17 rfl ?_
    obtain ⟨h10, h11⟩ := h9
    exact r_mask [true, true, true, true] rfl (h11 hx1 h10 hx3 k7)
