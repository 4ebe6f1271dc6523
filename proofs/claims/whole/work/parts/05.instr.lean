theorem zblt {a b : Nat} (h : Nat.blt a b = true) : a < b := by simpa using h
theorem i8_of {v : Int} (h : decide (-128 ≤ v ∧ v < 128) = true) : (Int8.ofInt v).toInt32 = Int32.ofInt v := by
  have h := of_decide_eq_true h
  apply Int32.toInt_inj.mp
  rw [i32_toInt ⟨by omega, by omega⟩, Int8.toInt_toInt32, Int8.toInt_ofInt_of_le (by omega) (by omega)]
theorem i16_of {v : Int} (h : decide (-32768 ≤ v ∧ v < 32768) = true) : (Int16.ofInt v).toInt32 = Int32.ofInt v := by
  have h := of_decide_eq_true h
  apply Int32.toInt_inj.mp
  rw [i32_toInt ⟨by omega, by omega⟩, Int16.toInt_toInt32, Int16.toInt_ofInt_of_le (by omega) (by omega)]
/-! ===== one row an instruction, over the store ===== -/
section ZR
variable {X : ZX} {M : ZM} {R : Room} {Z : List Frame → Array Value → State → State → Prop} {n0 n pc : Nat} {ls : List (Option Value)} {st : List Value} {σ : ZSto}

theorem r_iconst {v : Int} (hd : decode M.2.1 pc = .ok (.iconst v, 1)) (k : Zm X M R Z n0 n (pc + 1) ls (iV v :: st) σ) : Zm X M R Z n0 n pc ls st σ := by
  intro G p e s m args below meth c H locs lsA hF hL hP
  exact lv_iconst hF.1 hF.2.1 hd rfl (k G p e s m args below meth c H locs lsA hF hL hP)

theorem r_bipush {v : Int} (hd : decode M.2.1 pc = .ok (.bipush v, 2)) (hv : decide (-128 ≤ v ∧ v < 128) = true) (k : Zm X M R Z n0 n (pc + 2) ls (iV v :: st) σ) : Zm X M R Z n0 n pc ls st σ := by
  intro G p e s m args below meth c H locs lsA hF hL hP
  exact lv_bipush hF.1 hF.2.1 hd (i8_of hv) (k G p e s m args below meth c H locs lsA hF hL hP)

theorem r_sipush {v : Int} (hd : decode M.2.1 pc = .ok (.sipush v, 3)) (hv : decide (-32768 ≤ v ∧ v < 32768) = true) (k : Zm X M R Z n0 n (pc + 3) ls (iV v :: st) σ) : Zm X M R Z n0 n pc ls st σ := by
  intro G p e s m args below meth c H locs lsA hF hL hP
  exact lv_sipush hF.1 hF.2.1 hd (i16_of hv) (k G p e s m args below meth c H locs lsA hF hL hP)

theorem r_lconst {i : Fin 2} {v : Int64} (hd : decode M.2.1 pc = .ok (.lconst i, 1)) (hv : Int64.ofNat (i : Nat) = v) (k : Zm X M R Z n0 n (pc + 1) ls (.long v :: st) σ) : Zm X M R Z n0 n pc ls st σ := by
  intro G p e s m args below meth c H locs lsA hF hL hP
  exact lv_lconst hF.1 hF.2.1 hd hv (k G p e s m args below meth c H locs lsA hF hL hP)

theorem r_iload_n {i : Fin 4} {x : Int} (hd : decode M.2.1 pc = .ok (.iload_n i, 1)) (hl : ls[(i : Nat)]? = some (some (iV x))) (k : Zm X M R Z n0 n (pc + 1) ls (iV x :: st) σ) : Zm X M R Z n0 n pc ls st σ := by
  intro G p e s m args below meth c H locs lsA hF hL hP
  exact lv_iload_n hF.1 hF.2.1 hd rfl (hL.2.2 _ _ hl) (k G p e s m args below meth c H locs lsA hF hL hP)

theorem r_iload {i : Nat} {x : Int} (hd : decode M.2.1 pc = .ok (.iload i, 2)) (hl : ls[i]? = some (some (iV x))) (k : Zm X M R Z n0 n (pc + 2) ls (iV x :: st) σ) : Zm X M R Z n0 n pc ls st σ := by
  intro G p e s m args below meth c H locs lsA hF hL hP
  exact lv_iload hF.1 hF.2.1 hd (hL.2.2 _ _ hl) (k G p e s m args below meth c H locs lsA hF hL hP)

theorem r_lload_n {i : Fin 4} {x : Int64} (hd : decode M.2.1 pc = .ok (.lload_n i, 1)) (hl : ls[(i : Nat)]? = some (some (.long x))) (k : Zm X M R Z n0 n (pc + 1) ls (.long x :: st) σ) : Zm X M R Z n0 n pc ls st σ := by
  intro G p e s m args below meth c H locs lsA hF hL hP
  exact lv_lload_n hF.1 hF.2.1 hd rfl (hL.2.2 _ _ hl) (k G p e s m args below meth c H locs lsA hF hL hP)

theorem r_lload {i : Nat} {x : Int64} (hd : decode M.2.1 pc = .ok (.lload i, 2)) (hl : ls[i]? = some (some (.long x))) (k : Zm X M R Z n0 n (pc + 2) ls (.long x :: st) σ) : Zm X M R Z n0 n pc ls st σ := by
  intro G p e s m args below meth c H locs lsA hF hL hP
  exact lv_lload hF.1 hF.2.1 hd (hL.2.2 _ _ hl) (k G p e s m args below meth c H locs lsA hF hL hP)

theorem r_aload_n {i : Fin 4} {x : Nat} (hd : decode M.2.1 pc = .ok (.aload_n i, 1)) (hl : ls[(i : Nat)]? = some (some (.ref x))) (k : Zm X M R Z n0 n (pc + 1) ls (.ref x :: st) σ) : Zm X M R Z n0 n pc ls st σ := by
  intro G p e s m args below meth c H locs lsA hF hL hP
  exact lv_aload_n hF.1 hF.2.1 hd rfl (hL.2.2 _ _ hl) (k G p e s m args below meth c H locs lsA hF hL hP)

theorem r_aload {i : Nat} {x : Nat} (hd : decode M.2.1 pc = .ok (.aload i, 2)) (hl : ls[i]? = some (some (.ref x))) (k : Zm X M R Z n0 n (pc + 2) ls (.ref x :: st) σ) : Zm X M R Z n0 n pc ls st σ := by
  intro G p e s m args below meth c H locs lsA hF hL hP
  exact lv_aload hF.1 hF.2.1 hd (hL.2.2 _ _ hl) (k G p e s m args below meth c H locs lsA hF hL hP)

theorem r_istore_n {i : Fin 4} {x : Int} {ls2 : List (Option Value)} (hd : decode M.2.1 pc = .ok (.istore_n i, 1)) (hi : Nat.blt (i : Nat) M.2.2.1 = true) (he : st1 ls (i : Nat) (iV x) = ls2) (k : Zm X M R Z n0 n (pc + 1) ls2 st σ) : Zm X M R Z n0 n pc ls (iV x :: st) σ := by
  intro G p e s m args below meth c H locs lsA hF hL hP
  subst he
  exact lv_istore_n hF.1 hF.2.1 hd rfl (zL_has hL) (zblt hi) rfl (fun ls2 h2 => k G p e s m args below meth c H locs ls2 hF (zL_st1 h2) hP)

theorem r_istore {i : Nat} {x : Int} {ls2 : List (Option Value)} (hd : decode M.2.1 pc = .ok (.istore i, 2)) (hi : Nat.blt (i : Nat) M.2.2.1 = true) (he : st1 ls i (iV x) = ls2) (k : Zm X M R Z n0 n (pc + 2) ls2 st σ) : Zm X M R Z n0 n pc ls (iV x :: st) σ := by
  intro G p e s m args below meth c H locs lsA hF hL hP
  subst he
  exact lv_istore hF.1 hF.2.1 hd (zL_has hL) (zblt hi) rfl (fun ls2 h2 => k G p e s m args below meth c H locs ls2 hF (zL_st1 h2) hP)

theorem r_lstore_n {i : Fin 4} {x : Int64} {ls2 : List (Option Value)} (hd : decode M.2.1 pc = .ok (.lstore_n i, 1)) (hi : Nat.blt ((i : Nat) + 1) M.2.2.1 = true) (he : st2 ls (i : Nat) (.long x) = ls2) (k : Zm X M R Z n0 n (pc + 1) ls2 st σ) : Zm X M R Z n0 n pc ls (.long x :: st) σ := by
  intro G p e s m args below meth c H locs lsA hF hL hP
  subst he
  exact lv_lstore_n hF.1 hF.2.1 hd rfl (zL_has hL) (zblt hi) rfl (fun ls2 h2 => k G p e s m args below meth c H locs ls2 hF (zL_st2 h2) hP)

theorem r_lstore {i : Nat} {x : Int64} {ls2 : List (Option Value)} (hd : decode M.2.1 pc = .ok (.lstore i, 2)) (hi : Nat.blt ((i : Nat) + 1) M.2.2.1 = true) (he : st2 ls i (.long x) = ls2) (k : Zm X M R Z n0 n (pc + 2) ls2 st σ) : Zm X M R Z n0 n pc ls (.long x :: st) σ := by
  intro G p e s m args below meth c H locs lsA hF hL hP
  subst he
  exact lv_lstore hF.1 hF.2.1 hd (zL_has hL) (zblt hi) rfl (fun ls2 h2 => k G p e s m args below meth c H locs ls2 hF (zL_st2 h2) hP)

theorem r_astore_n {i : Fin 4} {x : Nat} {ls2 : List (Option Value)} (hd : decode M.2.1 pc = .ok (.astore_n i, 1)) (hi : Nat.blt (i : Nat) M.2.2.1 = true) (he : st1 ls (i : Nat) (.ref x) = ls2) (k : Zm X M R Z n0 n (pc + 1) ls2 st σ) : Zm X M R Z n0 n pc ls (.ref x :: st) σ := by
  intro G p e s m args below meth c H locs lsA hF hL hP
  subst he
  exact lv_astore_n hF.1 hF.2.1 hd rfl (zL_has hL) (zblt hi) rfl (fun ls2 h2 => k G p e s m args below meth c H locs ls2 hF (zL_st1 h2) hP)

theorem r_astore {i : Nat} {x : Nat} {ls2 : List (Option Value)} (hd : decode M.2.1 pc = .ok (.astore i, 2)) (hi : Nat.blt (i : Nat) M.2.2.1 = true) (he : st1 ls i (.ref x) = ls2) (k : Zm X M R Z n0 n (pc + 2) ls2 st σ) : Zm X M R Z n0 n pc ls (.ref x :: st) σ := by
  intro G p e s m args below meth c H locs lsA hF hL hP
  subst he
  exact lv_astore hF.1 hF.2.1 hd (zL_has hL) (zblt hi) rfl (fun ls2 h2 => k G p e s m args below meth c H locs ls2 hF (zL_st1 h2) hP)

theorem r_iinc {i : Nat} {v x : Int} {ls2 : List (Option Value)} (hd : decode M.2.1 pc = .ok (.iinc i v, 3)) (hl : ls[i]? = some (some (iV x))) (hi : Nat.blt i M.2.2.1 = true) (he : st1 ls i (iV (x + v)) = ls2) (k : Zm X M R Z n0 n (pc + 3) ls2 st σ) : Zm X M R Z n0 n pc ls st σ := by
  intro G p e s m args below meth c H locs lsA hF hL hP
  subst he
  obtain ⟨q, hq⟩ := List.getElem?_of_mem (zPr_mem.mpr hl)
  exact lv_iinc hF.1 hF.2.1 hd (zL_has hL) hq (Int32.ofInt_add x v).symm (zblt hi) rfl (fun ls2 h2 => k G p e s m args below meth c H locs ls2 hF (zL_st1 h2) hP)

theorem r_iadd {x y : Int} (hd : decode M.2.1 pc = .ok (.iadd, 1)) (k : Zm X M R Z n0 n (pc + 1) ls (iV (x + y) :: st) σ) : Zm X M R Z n0 n pc ls (iV y :: iV x :: st) σ := by
  intro G p e s m args below meth c H locs lsA hF hL hP
  refine lv_iadd hF.1 hF.2.1 hd ?_
  rw [← Int32.ofInt_add]
  exact k G p e s m args below meth c H locs lsA hF hL hP

theorem r_isub {x y : Int} (hd : decode M.2.1 pc = .ok (.isub, 1)) (k : Zm X M R Z n0 n (pc + 1) ls (iV (x - y) :: st) σ) : Zm X M R Z n0 n pc ls (iV y :: iV x :: st) σ := by
  intro G p e s m args below meth c H locs lsA hF hL hP
  refine lv_isub hF.1 hF.2.1 hd ?_
  rw [← Int32.ofInt_sub]
  exact k G p e s m args below meth c H locs lsA hF hL hP

theorem r_imul {x y : Int} (hd : decode M.2.1 pc = .ok (.imul, 1)) (k : Zm X M R Z n0 n (pc + 1) ls (iV (x * y) :: st) σ) : Zm X M R Z n0 n pc ls (iV y :: iV x :: st) σ := by
  intro G p e s m args below meth c H locs lsA hF hL hP
  refine lv_imul hF.1 hF.2.1 hd ?_
  rw [← Int32.ofInt_mul]
  exact k G p e s m args below meth c H locs lsA hF hL hP

theorem r_ineg {x : Int} (hd : decode M.2.1 pc = .ok (.ineg, 1)) (k : Zm X M R Z n0 n (pc + 1) ls (iV (-x) :: st) σ) : Zm X M R Z n0 n pc ls (iV x :: st) σ := by
  intro G p e s m args below meth c H locs lsA hF hL hP
  refine lv_ineg hF.1 hF.2.1 hd ?_
  rw [← Int32.ofInt_neg]
  exact k G p e s m args below meth c H locs lsA hF hL hP

theorem r_iand {x y : Int} (hd : decode M.2.1 pc = .ok (.iand, 1)) (k : Zm X M R Z n0 n (pc + 1) ls (iV (andI x y) :: st) σ) : Zm X M R Z n0 n pc ls (iV y :: iV x :: st) σ := by
  intro G p e s m args below meth c H locs lsA hF hL hP
  refine lv_iand hF.1 hF.2.1 hd ?_
  rw [iV_of]
  exact k G p e s m args below meth c H locs lsA hF hL hP

theorem r_ior {x y : Int} (hd : decode M.2.1 pc = .ok (.ior, 1)) (k : Zm X M R Z n0 n (pc + 1) ls (iV (orI x y) :: st) σ) : Zm X M R Z n0 n pc ls (iV y :: iV x :: st) σ := by
  intro G p e s m args below meth c H locs lsA hF hL hP
  refine lv_ior hF.1 hF.2.1 hd ?_
  rw [iV_of]
  exact k G p e s m args below meth c H locs lsA hF hL hP

theorem r_ixor {x y : Int} (hd : decode M.2.1 pc = .ok (.ixor, 1)) (k : Zm X M R Z n0 n (pc + 1) ls (iV (xorI x y) :: st) σ) : Zm X M R Z n0 n pc ls (iV y :: iV x :: st) σ := by
  intro G p e s m args below meth c H locs lsA hF hL hP
  refine lv_ixor hF.1 hF.2.1 hd ?_
  rw [iV_of]
  exact k G p e s m args below meth c H locs lsA hF hL hP

theorem r_ishl {x y : Int} (hd : decode M.2.1 pc = .ok (.ishl, 1)) (k : Zm X M R Z n0 n (pc + 1) ls (iV (shlI x y) :: st) σ) : Zm X M R Z n0 n pc ls (iV y :: iV x :: st) σ := by
  intro G p e s m args below meth c H locs lsA hF hL hP
  refine lv_ishl hF.1 hF.2.1 hd ?_
  rw [iV_of]
  exact k G p e s m args below meth c H locs lsA hF hL hP

theorem r_ishr {x y : Int} (hd : decode M.2.1 pc = .ok (.ishr, 1)) (k : Zm X M R Z n0 n (pc + 1) ls (iV (shrI x y) :: st) σ) : Zm X M R Z n0 n pc ls (iV y :: iV x :: st) σ := by
  intro G p e s m args below meth c H locs lsA hF hL hP
  refine lv_ishr hF.1 hF.2.1 hd ?_
  rw [iV_of]
  exact k G p e s m args below meth c H locs lsA hF hL hP

theorem r_iushr {x y : Int} (hd : decode M.2.1 pc = .ok (.iushr, 1)) (k : Zm X M R Z n0 n (pc + 1) ls (iV (ushrI x y) :: st) σ) : Zm X M R Z n0 n pc ls (iV y :: iV x :: st) σ := by
  intro G p e s m args below meth c H locs lsA hF hL hP
  refine lv_iushr hF.1 hF.2.1 hd rfl ?_
  rw [iV_of]
  exact k G p e s m args below meth c H locs lsA hF hL hP

theorem r_i2b {x : Int} (hd : decode M.2.1 pc = .ok (.i2b, 1)) (k : Zm X M R Z n0 n (pc + 1) ls (iV (w8 x) :: st) σ) : Zm X M R Z n0 n pc ls (iV x :: st) σ := by
  intro G p e s m args below meth c H locs lsA hF hL hP
  refine lv_i2b hF.1 hF.2.1 hd rfl ?_
  rw [iV_of]
  exact k G p e s m args below meth c H locs lsA hF hL hP

theorem r_idiv {x y : Int} (hd : decode M.2.1 pc = .ok (.idiv, 1)) (hx : 0 ≤ x) (hx1 : x < 2147483648) (hy : 0 < y) (hy1 : y < 2147483648) (k : Zm X M R Z n0 n (pc + 1) ls (iV (x / y) :: st) σ) : Zm X M R Z n0 n pc ls (iV y :: iV x :: st) σ := by
  intro G p e s m args below meth c H locs lsA hF hL hP
  refine lv_idiv hF.1 hF.2.1 hd ?_ ?_
  · rw [← i32_0, i32_eq ⟨by omega, hy1⟩ r32_0]; omega
  · rw [i32_div hx hx1 hy hy1]
    exact k G p e s m args below meth c H locs lsA hF hL hP

theorem r_irem {x y : Int} (hd : decode M.2.1 pc = .ok (.irem, 1)) (hx : 0 ≤ x) (hx1 : x < 2147483648) (hy : 0 < y) (hy1 : y < 2147483648) (k : Zm X M R Z n0 n (pc + 1) ls (iV (x % y) :: st) σ) : Zm X M R Z n0 n pc ls (iV y :: iV x :: st) σ := by
  intro G p e s m args below meth c H locs lsA hF hL hP
  refine lv_irem hF.1 hF.2.1 hd ?_ ?_
  · rw [← i32_0, i32_eq ⟨by omega, hy1⟩ r32_0]; omega
  · rw [i32_rem hx hx1 hy hy1]
    exact k G p e s m args below meth c H locs lsA hF hL hP

theorem r_ladd {x y : Int64} (hd : decode M.2.1 pc = .ok (.ladd, 1)) (k : Zm X M R Z n0 n (pc + 1) ls (.long (x + y) :: st) σ) : Zm X M R Z n0 n pc ls (.long y :: .long x :: st) σ := by
  intro G p e s m args below meth c H locs lsA hF hL hP
  exact lv_ladd hF.1 hF.2.1 hd (k G p e s m args below meth c H locs lsA hF hL hP)

theorem r_lsub {x y : Int64} (hd : decode M.2.1 pc = .ok (.lsub, 1)) (k : Zm X M R Z n0 n (pc + 1) ls (.long (x - y) :: st) σ) : Zm X M R Z n0 n pc ls (.long y :: .long x :: st) σ := by
  intro G p e s m args below meth c H locs lsA hF hL hP
  exact lv_lsub hF.1 hF.2.1 hd (k G p e s m args below meth c H locs lsA hF hL hP)

theorem r_land {x y : Int64} (hd : decode M.2.1 pc = .ok (.land, 1)) (k : Zm X M R Z n0 n (pc + 1) ls (.long (x &&& y) :: st) σ) : Zm X M R Z n0 n pc ls (.long y :: .long x :: st) σ := by
  intro G p e s m args below meth c H locs lsA hF hL hP
  exact lv_land hF.1 hF.2.1 hd (k G p e s m args below meth c H locs lsA hF hL hP)

theorem r_lor {x y : Int64} (hd : decode M.2.1 pc = .ok (.lor, 1)) (k : Zm X M R Z n0 n (pc + 1) ls (.long (x ||| y) :: st) σ) : Zm X M R Z n0 n pc ls (.long y :: .long x :: st) σ := by
  intro G p e s m args below meth c H locs lsA hF hL hP
  exact lv_lor hF.1 hF.2.1 hd (k G p e s m args below meth c H locs lsA hF hL hP)

theorem r_lxor {x y : Int64} (hd : decode M.2.1 pc = .ok (.lxor, 1)) (k : Zm X M R Z n0 n (pc + 1) ls (.long (x ^^^ y) :: st) σ) : Zm X M R Z n0 n pc ls (.long y :: .long x :: st) σ := by
  intro G p e s m args below meth c H locs lsA hF hL hP
  exact lv_lxor hF.1 hF.2.1 hd (k G p e s m args below meth c H locs lsA hF hL hP)

theorem r_lshl {x : Int64} {y : Int} (hd : decode M.2.1 pc = .ok (.lshl, 1)) (k : Zm X M R Z n0 n (pc + 1) ls (.long (lshlF x y) :: st) σ) : Zm X M R Z n0 n pc ls (iV y :: .long x :: st) σ := by
  intro G p e s m args below meth c H locs lsA hF hL hP
  exact lv_lshl hF.1 hF.2.1 hd rfl (k G p e s m args below meth c H locs lsA hF hL hP)

theorem r_lushr {x : Int64} {y : Int} (hd : decode M.2.1 pc = .ok (.lushr, 1)) (k : Zm X M R Z n0 n (pc + 1) ls (.long (lushrF x y) :: st) σ) : Zm X M R Z n0 n pc ls (iV y :: .long x :: st) σ := by
  intro G p e s m args below meth c H locs lsA hF hL hP
  exact lv_lushr hF.1 hF.2.1 hd rfl (k G p e s m args below meth c H locs lsA hF hL hP)

theorem r_i2l {x : Int} (hd : decode M.2.1 pc = .ok (.i2l, 1)) (k : Zm X M R Z n0 n (pc + 1) ls (.long (i2lF x) :: st) σ) : Zm X M R Z n0 n pc ls (iV x :: st) σ := by
  intro G p e s m args below meth c H locs lsA hF hL hP
  exact lv_i2l hF.1 hF.2.1 hd rfl (k G p e s m args below meth c H locs lsA hF hL hP)

theorem r_l2i {x : Int64} (hd : decode M.2.1 pc = .ok (.l2i, 1)) (k : Zm X M R Z n0 n (pc + 1) ls (iV (l2iF x) :: st) σ) : Zm X M R Z n0 n pc ls (.long x :: st) σ := by
  intro G p e s m args below meth c H locs lsA hF hL hP
  refine lv_l2i hF.1 hF.2.1 hd rfl ?_
  rw [iV_of]
  exact k G p e s m args below meth c H locs lsA hF hL hP

theorem r_lcmp {x y : Int64} (hd : decode M.2.1 pc = .ok (.lcmp, 1)) (k : Zm X M R Z n0 n (pc + 1) ls (iV (lcmpF x y) :: st) σ) : Zm X M R Z n0 n pc ls (.long y :: .long x :: st) σ := by
  intro G p e s m args below meth c H locs lsA hF hL hP
  refine W.lcmp hF.1 hF.2.1 hd ?_
  rw [iV_of]
  exact k G p e s m args below meth c H locs lsA hF hL hP

theorem r_dup {v : Value} (hd : decode M.2.1 pc = .ok (.dup, 1)) (hv : v.category = 1) (k : Zm X M R Z n0 n (pc + 1) ls (v :: v :: st) σ) : Zm X M R Z n0 n pc ls (v :: st) σ := by
  intro G p e s m args below meth c H locs lsA hF hL hP
  exact lv_dup hF.1 hF.2.1 hd hv (k G p e s m args below meth c H locs lsA hF hL hP)

theorem r_pop {v : Value} (hd : decode M.2.1 pc = .ok (.pop, 1)) (hv : v.category = 1) (k : Zm X M R Z n0 n (pc + 1) ls st σ) : Zm X M R Z n0 n pc ls (v :: st) σ := by
  intro G p e s m args below meth c H locs lsA hF hL hP
  exact lv_pop hF.1 hF.2.1 hd hv (k G p e s m args below meth c H locs lsA hF hL hP)

theorem r_dup2 {v w : Value} (hd : decode M.2.1 pc = .ok (.dup2, 1)) (hv : v.category = 1) (hw : w.category = 1) (k : Zm X M R Z n0 n (pc + 1) ls (v :: w :: v :: w :: st) σ) : Zm X M R Z n0 n pc ls (v :: w :: st) σ := by
  intro G p e s m args below meth c H locs lsA hF hL hP
  exact lv_dup2_11 hF.1 hF.2.1 hd hv hw (k G p e s m args below meth c H locs lsA hF hL hP)

theorem r_goto {off : Int} {t : Nat} (hd : decode M.2.1 pc = .ok (.goto off, 3)) (ht : (pc : Int) + off = (t : Int)) (k : Zm X M R Z n0 n t ls st σ) : Zm X M R Z n0 n pc ls st σ := by
  intro G p e s m args below meth c H locs lsA hF hL hP
  exact lv_goto hF.1 hF.2.1 hd ht (k G p e s m args below meth c H locs lsA hF hL hP)

theorem r_icmp_eq {x y : Int} {off : Int} {t : Nat} (hd : decode M.2.1 pc = .ok (.if_icmp .eq off, 3)) (ht : (pc : Int) + off = (t : Int)) (hx : R32 x) (hy : R32 y) (kt : x = y → Zm X M R Z n0 n t ls st σ) (kf : ¬ (x = y) → Zm X M R Z n0 n (pc + 3) ls st σ) : Zm X M R Z n0 n pc ls (iV y :: iV x :: st) σ := by
  intro G p e s m args below meth c H locs lsA hF hL hP
  refine lv_icmp_eq hF.1 hF.2.1 hd ht (fun q => kt ?_ G p e s m args below meth c H locs lsA hF hL hP) (fun q => kf ?_ G p e s m args below meth c H locs lsA hF hL hP)
  · first | exact (i32_eq hx hy).mp q | (have := (i32_eq hx hy).mp; simp at q ⊢; omega)
  · first | exact fun z => q ((i32_eq hx hy).mpr z) | (simp at q ⊢; omega)

theorem r_if_eq {x : Int} {off : Int} {t : Nat} (hd : decode M.2.1 pc = .ok (.ifCond .eq off, 3)) (ht : (pc : Int) + off = (t : Int)) (hx : R32 x) (kt : x = 0 → Zm X M R Z n0 n t ls st σ) (kf : ¬ (x = 0) → Zm X M R Z n0 n (pc + 3) ls st σ) : Zm X M R Z n0 n pc ls (iV x :: st) σ := by
  intro G p e s m args below meth c H locs lsA hF hL hP
  refine lv_if_eq hF.1 hF.2.1 hd ht (fun q => kt ?_ G p e s m args below meth c H locs lsA hF hL hP) (fun q => kf ?_ G p e s m args below meth c H locs lsA hF hL hP)
  · rw [← i32_0] at q; exact (i32_eq hx r32_0).mp q
  · rw [← i32_0] at q; exact fun z => q ((i32_eq hx r32_0).mpr z)

theorem r_icmp_lt {x y : Int} {off : Int} {t : Nat} (hd : decode M.2.1 pc = .ok (.if_icmp .lt off, 3)) (ht : (pc : Int) + off = (t : Int)) (hx : R32 x) (hy : R32 y) (kt : x < y → Zm X M R Z n0 n t ls st σ) (kf : ¬ (x < y) → Zm X M R Z n0 n (pc + 3) ls st σ) : Zm X M R Z n0 n pc ls (iV y :: iV x :: st) σ := by
  intro G p e s m args below meth c H locs lsA hF hL hP
  refine lv_icmp_lt hF.1 hF.2.1 hd ht (fun q => kt ?_ G p e s m args below meth c H locs lsA hF hL hP) (fun q => kf ?_ G p e s m args below meth c H locs lsA hF hL hP)
  · first | exact (i32_lt hx hy).mp q | (have := (i32_lt hx hy).mp; simp at q ⊢; omega)
  · first | exact fun z => q ((i32_lt hx hy).mpr z) | (simp at q ⊢; omega)

theorem r_if_lt {x : Int} {off : Int} {t : Nat} (hd : decode M.2.1 pc = .ok (.ifCond .lt off, 3)) (ht : (pc : Int) + off = (t : Int)) (hx : R32 x) (kt : x < 0 → Zm X M R Z n0 n t ls st σ) (kf : ¬ (x < 0) → Zm X M R Z n0 n (pc + 3) ls st σ) : Zm X M R Z n0 n pc ls (iV x :: st) σ := by
  intro G p e s m args below meth c H locs lsA hF hL hP
  refine lv_if_lt hF.1 hF.2.1 hd ht (fun q => kt ?_ G p e s m args below meth c H locs lsA hF hL hP) (fun q => kf ?_ G p e s m args below meth c H locs lsA hF hL hP)
  · rw [← i32_0] at q; exact (i32_lt hx r32_0).mp q
  · rw [← i32_0] at q; exact fun z => q ((i32_lt hx r32_0).mpr z)

theorem r_icmp_ge {x y : Int} {off : Int} {t : Nat} (hd : decode M.2.1 pc = .ok (.if_icmp .ge off, 3)) (ht : (pc : Int) + off = (t : Int)) (hx : R32 x) (hy : R32 y) (kt : y ≤ x → Zm X M R Z n0 n t ls st σ) (kf : ¬ (y ≤ x) → Zm X M R Z n0 n (pc + 3) ls st σ) : Zm X M R Z n0 n pc ls (iV y :: iV x :: st) σ := by
  intro G p e s m args below meth c H locs lsA hF hL hP
  refine lv_icmp_ge hF.1 hF.2.1 hd ht (fun q => kt ?_ G p e s m args below meth c H locs lsA hF hL hP) (fun q => kf ?_ G p e s m args below meth c H locs lsA hF hL hP)
  · first | exact (i32_le hy hx).mp q | (have := (i32_le hy hx).mp; simp at q ⊢; omega)
  · first | exact fun z => q ((i32_le hy hx).mpr z) | (simp at q ⊢; omega)

theorem r_if_ge {x : Int} {off : Int} {t : Nat} (hd : decode M.2.1 pc = .ok (.ifCond .ge off, 3)) (ht : (pc : Int) + off = (t : Int)) (hx : R32 x) (kt : 0 ≤ x → Zm X M R Z n0 n t ls st σ) (kf : ¬ (0 ≤ x) → Zm X M R Z n0 n (pc + 3) ls st σ) : Zm X M R Z n0 n pc ls (iV x :: st) σ := by
  intro G p e s m args below meth c H locs lsA hF hL hP
  refine lv_if_ge hF.1 hF.2.1 hd ht (fun q => kt ?_ G p e s m args below meth c H locs lsA hF hL hP) (fun q => kf ?_ G p e s m args below meth c H locs lsA hF hL hP)
  · rw [← i32_0] at q; exact (i32_le r32_0 hx).mp q
  · rw [← i32_0] at q; exact fun z => q ((i32_le r32_0 hx).mpr z)

theorem r_icmp_gt {x y : Int} {off : Int} {t : Nat} (hd : decode M.2.1 pc = .ok (.if_icmp .gt off, 3)) (ht : (pc : Int) + off = (t : Int)) (hx : R32 x) (hy : R32 y) (kt : y < x → Zm X M R Z n0 n t ls st σ) (kf : ¬ (y < x) → Zm X M R Z n0 n (pc + 3) ls st σ) : Zm X M R Z n0 n pc ls (iV y :: iV x :: st) σ := by
  intro G p e s m args below meth c H locs lsA hF hL hP
  refine lv_icmp_gt hF.1 hF.2.1 hd ht (fun q => kt ?_ G p e s m args below meth c H locs lsA hF hL hP) (fun q => kf ?_ G p e s m args below meth c H locs lsA hF hL hP)
  · first | exact (i32_lt hy hx).mp q | (have := (i32_lt hy hx).mp; simp at q ⊢; omega)
  · first | exact fun z => q ((i32_lt hy hx).mpr z) | (simp at q ⊢; omega)

theorem r_if_gt {x : Int} {off : Int} {t : Nat} (hd : decode M.2.1 pc = .ok (.ifCond .gt off, 3)) (ht : (pc : Int) + off = (t : Int)) (hx : R32 x) (kt : 0 < x → Zm X M R Z n0 n t ls st σ) (kf : ¬ (0 < x) → Zm X M R Z n0 n (pc + 3) ls st σ) : Zm X M R Z n0 n pc ls (iV x :: st) σ := by
  intro G p e s m args below meth c H locs lsA hF hL hP
  refine lv_if_gt hF.1 hF.2.1 hd ht (fun q => kt ?_ G p e s m args below meth c H locs lsA hF hL hP) (fun q => kf ?_ G p e s m args below meth c H locs lsA hF hL hP)
  · rw [← i32_0] at q; exact (i32_lt r32_0 hx).mp q
  · rw [← i32_0] at q; exact fun z => q ((i32_lt r32_0 hx).mpr z)

theorem r_icmp_le {x y : Int} {off : Int} {t : Nat} (hd : decode M.2.1 pc = .ok (.if_icmp .le off, 3)) (ht : (pc : Int) + off = (t : Int)) (hx : R32 x) (hy : R32 y) (kt : x ≤ y → Zm X M R Z n0 n t ls st σ) (kf : ¬ (x ≤ y) → Zm X M R Z n0 n (pc + 3) ls st σ) : Zm X M R Z n0 n pc ls (iV y :: iV x :: st) σ := by
  intro G p e s m args below meth c H locs lsA hF hL hP
  refine lv_icmp_le hF.1 hF.2.1 hd ht (fun q => kt ?_ G p e s m args below meth c H locs lsA hF hL hP) (fun q => kf ?_ G p e s m args below meth c H locs lsA hF hL hP)
  · first | exact (i32_le hx hy).mp q | (have := (i32_le hx hy).mp; simp at q ⊢; omega)
  · first | exact fun z => q ((i32_le hx hy).mpr z) | (simp at q ⊢; omega)

theorem r_if_le {x : Int} {off : Int} {t : Nat} (hd : decode M.2.1 pc = .ok (.ifCond .le off, 3)) (ht : (pc : Int) + off = (t : Int)) (hx : R32 x) (kt : x ≤ 0 → Zm X M R Z n0 n t ls st σ) (kf : ¬ (x ≤ 0) → Zm X M R Z n0 n (pc + 3) ls st σ) : Zm X M R Z n0 n pc ls (iV x :: st) σ := by
  intro G p e s m args below meth c H locs lsA hF hL hP
  refine lv_if_le hF.1 hF.2.1 hd ht (fun q => kt ?_ G p e s m args below meth c H locs lsA hF hL hP) (fun q => kf ?_ G p e s m args below meth c H locs lsA hF hL hP)
  · rw [← i32_0] at q; exact (i32_le hx r32_0).mp q
  · rw [← i32_0] at q; exact fun z => q ((i32_le hx r32_0).mpr z)

theorem r_icmp_ne {x y : Int} {off : Int} {t : Nat} (hd : decode M.2.1 pc = .ok (.if_icmp .ne off, 3)) (ht : (pc : Int) + off = (t : Int)) (hx : R32 x) (hy : R32 y) (kt : ¬ x = y → Zm X M R Z n0 n t ls st σ) (kf : x = y → Zm X M R Z n0 n (pc + 3) ls st σ) : Zm X M R Z n0 n pc ls (iV y :: iV x :: st) σ := by
  intro G p e s m args below meth c H locs lsA hF hL hP
  refine lv_icmp_ne hF.1 hF.2.1 hd ht (fun q => kt ?_ G p e s m args below meth c H locs lsA hF hL hP) (fun q => kf ?_ G p e s m args below meth c H locs lsA hF hL hP)
  · exact fun z => q ((i32_eq hx hy).mpr z)
  · exact (i32_eq hx hy).mp q

theorem r_if_ne {x : Int} {off : Int} {t : Nat} (hd : decode M.2.1 pc = .ok (.ifCond .ne off, 3)) (ht : (pc : Int) + off = (t : Int)) (hx : R32 x) (kt : ¬ x = 0 → Zm X M R Z n0 n t ls st σ) (kf : x = 0 → Zm X M R Z n0 n (pc + 3) ls st σ) : Zm X M R Z n0 n pc ls (iV x :: st) σ := by
  intro G p e s m args below meth c H locs lsA hF hL hP
  refine lv_if_ne hF.1 hF.2.1 hd ht (fun q => kt ?_ G p e s m args below meth c H locs lsA hF hL hP) (fun q => kf ?_ G p e s m args below meth c H locs lsA hF hL hP)
  · rw [← i32_0] at q; exact fun z => q ((i32_eq hx r32_0).mpr z)
  · rw [← i32_0] at q; exact (i32_eq hx r32_0).mp q

end ZR
