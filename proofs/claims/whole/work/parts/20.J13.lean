/-! java/lang/Long.bitCount -/
theorem dJ13_bitCount_95d88_0 : decode M_J13_bitCount_95d88.2.1 0 = .ok (.lload_n 0, 1) := by decide +kernel
theorem dJ13_bitCount_95d88_1 : decode M_J13_bitCount_95d88.2.1 1 = .ok (.lload_n 0, 1) := by decide +kernel
theorem dJ13_bitCount_95d88_2 : decode M_J13_bitCount_95d88.2.1 2 = .ok (.iconst 1, 1) := by decide +kernel
theorem dJ13_bitCount_95d88_3 : decode M_J13_bitCount_95d88.2.1 3 = .ok (.lushr, 1) := by decide +kernel
theorem dJ13_bitCount_95d88_4 : decode M_J13_bitCount_95d88.2.1 4 = .ok (.ldc2_w 314, 3) := by decide +kernel
theorem dJ13_bitCount_95d88_7 : decode M_J13_bitCount_95d88.2.1 7 = .ok (.land, 1) := by decide +kernel
theorem dJ13_bitCount_95d88_8 : decode M_J13_bitCount_95d88.2.1 8 = .ok (.lsub, 1) := by decide +kernel
theorem dJ13_bitCount_95d88_9 : decode M_J13_bitCount_95d88.2.1 9 = .ok (.lstore_n 0, 1) := by decide +kernel
theorem dJ13_bitCount_95d88_10 : decode M_J13_bitCount_95d88.2.1 10 = .ok (.lload_n 0, 1) := by decide +kernel
theorem dJ13_bitCount_95d88_11 : decode M_J13_bitCount_95d88.2.1 11 = .ok (.ldc2_w 316, 3) := by decide +kernel
theorem dJ13_bitCount_95d88_14 : decode M_J13_bitCount_95d88.2.1 14 = .ok (.land, 1) := by decide +kernel
theorem dJ13_bitCount_95d88_15 : decode M_J13_bitCount_95d88.2.1 15 = .ok (.lload_n 0, 1) := by decide +kernel
theorem dJ13_bitCount_95d88_16 : decode M_J13_bitCount_95d88.2.1 16 = .ok (.iconst 2, 1) := by decide +kernel
theorem dJ13_bitCount_95d88_17 : decode M_J13_bitCount_95d88.2.1 17 = .ok (.lushr, 1) := by decide +kernel
theorem dJ13_bitCount_95d88_18 : decode M_J13_bitCount_95d88.2.1 18 = .ok (.ldc2_w 316, 3) := by decide +kernel
theorem dJ13_bitCount_95d88_21 : decode M_J13_bitCount_95d88.2.1 21 = .ok (.land, 1) := by decide +kernel
theorem dJ13_bitCount_95d88_22 : decode M_J13_bitCount_95d88.2.1 22 = .ok (.ladd, 1) := by decide +kernel
theorem dJ13_bitCount_95d88_23 : decode M_J13_bitCount_95d88.2.1 23 = .ok (.lstore_n 0, 1) := by decide +kernel
theorem dJ13_bitCount_95d88_24 : decode M_J13_bitCount_95d88.2.1 24 = .ok (.lload_n 0, 1) := by decide +kernel
theorem dJ13_bitCount_95d88_25 : decode M_J13_bitCount_95d88.2.1 25 = .ok (.lload_n 0, 1) := by decide +kernel
theorem dJ13_bitCount_95d88_26 : decode M_J13_bitCount_95d88.2.1 26 = .ok (.iconst 4, 1) := by decide +kernel
theorem dJ13_bitCount_95d88_27 : decode M_J13_bitCount_95d88.2.1 27 = .ok (.lushr, 1) := by decide +kernel
theorem dJ13_bitCount_95d88_28 : decode M_J13_bitCount_95d88.2.1 28 = .ok (.ladd, 1) := by decide +kernel
theorem dJ13_bitCount_95d88_29 : decode M_J13_bitCount_95d88.2.1 29 = .ok (.ldc2_w 318, 3) := by decide +kernel
theorem dJ13_bitCount_95d88_32 : decode M_J13_bitCount_95d88.2.1 32 = .ok (.land, 1) := by decide +kernel
theorem dJ13_bitCount_95d88_33 : decode M_J13_bitCount_95d88.2.1 33 = .ok (.lstore_n 0, 1) := by decide +kernel
theorem dJ13_bitCount_95d88_34 : decode M_J13_bitCount_95d88.2.1 34 = .ok (.lload_n 0, 1) := by decide +kernel
theorem dJ13_bitCount_95d88_35 : decode M_J13_bitCount_95d88.2.1 35 = .ok (.lload_n 0, 1) := by decide +kernel
theorem dJ13_bitCount_95d88_36 : decode M_J13_bitCount_95d88.2.1 36 = .ok (.bipush 8, 2) := by decide +kernel
theorem dJ13_bitCount_95d88_38 : decode M_J13_bitCount_95d88.2.1 38 = .ok (.lushr, 1) := by decide +kernel
theorem dJ13_bitCount_95d88_39 : decode M_J13_bitCount_95d88.2.1 39 = .ok (.ladd, 1) := by decide +kernel
theorem dJ13_bitCount_95d88_40 : decode M_J13_bitCount_95d88.2.1 40 = .ok (.lstore_n 0, 1) := by decide +kernel
theorem dJ13_bitCount_95d88_41 : decode M_J13_bitCount_95d88.2.1 41 = .ok (.lload_n 0, 1) := by decide +kernel
theorem dJ13_bitCount_95d88_42 : decode M_J13_bitCount_95d88.2.1 42 = .ok (.lload_n 0, 1) := by decide +kernel
theorem dJ13_bitCount_95d88_43 : decode M_J13_bitCount_95d88.2.1 43 = .ok (.bipush 16, 2) := by decide +kernel
theorem dJ13_bitCount_95d88_45 : decode M_J13_bitCount_95d88.2.1 45 = .ok (.lushr, 1) := by decide +kernel
theorem dJ13_bitCount_95d88_46 : decode M_J13_bitCount_95d88.2.1 46 = .ok (.ladd, 1) := by decide +kernel
theorem dJ13_bitCount_95d88_47 : decode M_J13_bitCount_95d88.2.1 47 = .ok (.lstore_n 0, 1) := by decide +kernel
theorem dJ13_bitCount_95d88_48 : decode M_J13_bitCount_95d88.2.1 48 = .ok (.lload_n 0, 1) := by decide +kernel
theorem dJ13_bitCount_95d88_49 : decode M_J13_bitCount_95d88.2.1 49 = .ok (.lload_n 0, 1) := by decide +kernel
theorem dJ13_bitCount_95d88_50 : decode M_J13_bitCount_95d88.2.1 50 = .ok (.bipush 32, 2) := by decide +kernel
theorem dJ13_bitCount_95d88_52 : decode M_J13_bitCount_95d88.2.1 52 = .ok (.lushr, 1) := by decide +kernel
theorem dJ13_bitCount_95d88_53 : decode M_J13_bitCount_95d88.2.1 53 = .ok (.ladd, 1) := by decide +kernel
theorem dJ13_bitCount_95d88_54 : decode M_J13_bitCount_95d88.2.1 54 = .ok (.lstore_n 0, 1) := by decide +kernel
theorem dJ13_bitCount_95d88_55 : decode M_J13_bitCount_95d88.2.1 55 = .ok (.lload_n 0, 1) := by decide +kernel
theorem dJ13_bitCount_95d88_56 : decode M_J13_bitCount_95d88.2.1 56 = .ok (.l2i, 1) := by decide +kernel
theorem dJ13_bitCount_95d88_57 : decode M_J13_bitCount_95d88.2.1 57 = .ok (.bipush 127, 2) := by decide +kernel
theorem dJ13_bitCount_95d88_59 : decode M_J13_bitCount_95d88.2.1 59 = .ok (.iand, 1) := by decide +kernel
theorem dJ13_bitCount_95d88_60 : decode M_J13_bitCount_95d88.2.1 60 = .ok (.ireturn, 1) := by decide +kernel
theorem w_J13_bitCount_95d88 {X : ZX} {d n : Nat} {P : Int → ZSto → Prop} {l0 : Int64} {σ : ZSto} (hn : 73 ≤ n)  
    (h : P (andI (l2iF ((((((((l0 - ((lushrF l0 1) &&& ((6148914691236517205 : Int64)))) &&& ((3689348814741910323 : Int64))) + ((lushrF (l0 - ((lushrF l0 1) &&& ((6148914691236517205 : Int64)))) 2) &&& ((3689348814741910323 : Int64)))) + (lushrF (((l0 - ((lushrF l0 1) &&& ((6148914691236517205 : Int64)))) &&& ((3689348814741910323 : Int64))) + ((lushrF (l0 - ((lushrF l0 1) &&& ((6148914691236517205 : Int64)))) 2) &&& ((3689348814741910323 : Int64)))) 4)) &&& ((1085102592571150095 : Int64))) + (lushrF (((((l0 - ((lushrF l0 1) &&& ((6148914691236517205 : Int64)))) &&& ((3689348814741910323 : Int64))) + ((lushrF (l0 - ((lushrF l0 1) &&& ((6148914691236517205 : Int64)))) 2) &&& ((3689348814741910323 : Int64)))) + (lushrF (((l0 - ((lushrF l0 1) &&& ((6148914691236517205 : Int64)))) &&& ((3689348814741910323 : Int64))) + ((lushrF (l0 - ((lushrF l0 1) &&& ((6148914691236517205 : Int64)))) 2) &&& ((3689348814741910323 : Int64)))) 4)) &&& ((1085102592571150095 : Int64))) 8)) + (lushrF ((((((l0 - ((lushrF l0 1) &&& ((6148914691236517205 : Int64)))) &&& ((3689348814741910323 : Int64))) + ((lushrF (l0 - ((lushrF l0 1) &&& ((6148914691236517205 : Int64)))) 2) &&& ((3689348814741910323 : Int64)))) + (lushrF (((l0 - ((lushrF l0 1) &&& ((6148914691236517205 : Int64)))) &&& ((3689348814741910323 : Int64))) + ((lushrF (l0 - ((lushrF l0 1) &&& ((6148914691236517205 : Int64)))) 2) &&& ((3689348814741910323 : Int64)))) 4)) &&& ((1085102592571150095 : Int64))) + (lushrF (((((l0 - ((lushrF l0 1) &&& ((6148914691236517205 : Int64)))) &&& ((3689348814741910323 : Int64))) + ((lushrF (l0 - ((lushrF l0 1) &&& ((6148914691236517205 : Int64)))) 2) &&& ((3689348814741910323 : Int64)))) + (lushrF (((l0 - ((lushrF l0 1) &&& ((6148914691236517205 : Int64)))) &&& ((3689348814741910323 : Int64))) + ((lushrF (l0 - ((lushrF l0 1) &&& ((6148914691236517205 : Int64)))) 2) &&& ((3689348814741910323 : Int64)))) 4)) &&& ((1085102592571150095 : Int64))) 8)) 16)) + (lushrF (((((((l0 - ((lushrF l0 1) &&& ((6148914691236517205 : Int64)))) &&& ((3689348814741910323 : Int64))) + ((lushrF (l0 - ((lushrF l0 1) &&& ((6148914691236517205 : Int64)))) 2) &&& ((3689348814741910323 : Int64)))) + (lushrF (((l0 - ((lushrF l0 1) &&& ((6148914691236517205 : Int64)))) &&& ((3689348814741910323 : Int64))) + ((lushrF (l0 - ((lushrF l0 1) &&& ((6148914691236517205 : Int64)))) 2) &&& ((3689348814741910323 : Int64)))) 4)) &&& ((1085102592571150095 : Int64))) + (lushrF (((((l0 - ((lushrF l0 1) &&& ((6148914691236517205 : Int64)))) &&& ((3689348814741910323 : Int64))) + ((lushrF (l0 - ((lushrF l0 1) &&& ((6148914691236517205 : Int64)))) 2) &&& ((3689348814741910323 : Int64)))) + (lushrF (((l0 - ((lushrF l0 1) &&& ((6148914691236517205 : Int64)))) &&& ((3689348814741910323 : Int64))) + ((lushrF (l0 - ((lushrF l0 1) &&& ((6148914691236517205 : Int64)))) 2) &&& ((3689348814741910323 : Int64)))) 4)) &&& ((1085102592571150095 : Int64))) 8)) + (lushrF ((((((l0 - ((lushrF l0 1) &&& ((6148914691236517205 : Int64)))) &&& ((3689348814741910323 : Int64))) + ((lushrF (l0 - ((lushrF l0 1) &&& ((6148914691236517205 : Int64)))) 2) &&& ((3689348814741910323 : Int64)))) + (lushrF (((l0 - ((lushrF l0 1) &&& ((6148914691236517205 : Int64)))) &&& ((3689348814741910323 : Int64))) + ((lushrF (l0 - ((lushrF l0 1) &&& ((6148914691236517205 : Int64)))) 2) &&& ((3689348814741910323 : Int64)))) 4)) &&& ((1085102592571150095 : Int64))) + (lushrF (((((l0 - ((lushrF l0 1) &&& ((6148914691236517205 : Int64)))) &&& ((3689348814741910323 : Int64))) + ((lushrF (l0 - ((lushrF l0 1) &&& ((6148914691236517205 : Int64)))) 2) &&& ((3689348814741910323 : Int64)))) + (lushrF (((l0 - ((lushrF l0 1) &&& ((6148914691236517205 : Int64)))) &&& ((3689348814741910323 : Int64))) + ((lushrF (l0 - ((lushrF l0 1) &&& ((6148914691236517205 : Int64)))) 2) &&& ((3689348814741910323 : Int64)))) 4)) &&& ((1085102592571150095 : Int64))) 8)) 16)) 32))) 127) σ) :
    ZkI X M_J13_bitCount_95d88 (d + 1) n [.long l0] σ P := by
  refine zk_of (ls := [some (.long l0), none]) pl_RJ13 (Nat.le_of_ble_eq_true rfl) rfl (fun k0 => ?_)
  unfold Zn
  refine r_lload_n dJ13_bitCount_95d88_0 rfl ?_
  refine r_lload_n dJ13_bitCount_95d88_1 rfl ?_
  refine r_iconst dJ13_bitCount_95d88_2 ?_
  refine r_lushr dJ13_bitCount_95d88_3 ?_
  refine r_ldc2 dJ13_bitCount_95d88_4 kc_RJ13_314 ?_
  refine r_land dJ13_bitCount_95d88_7 ?_
  refine r_lsub dJ13_bitCount_95d88_8 ?_
  refine r_lstore_n dJ13_bitCount_95d88_9 rfl rfl ?_
  refine r_lload_n dJ13_bitCount_95d88_10 rfl ?_
  refine r_ldc2 dJ13_bitCount_95d88_11 kc_RJ13_316 ?_
  refine r_land dJ13_bitCount_95d88_14 ?_
  refine r_lload_n dJ13_bitCount_95d88_15 rfl ?_
  refine r_iconst dJ13_bitCount_95d88_16 ?_
  refine r_lushr dJ13_bitCount_95d88_17 ?_
  refine r_ldc2 dJ13_bitCount_95d88_18 kc_RJ13_316 ?_
  refine r_land dJ13_bitCount_95d88_21 ?_
  refine r_ladd dJ13_bitCount_95d88_22 ?_
  refine r_lstore_n dJ13_bitCount_95d88_23 rfl rfl ?_
  refine r_lload_n dJ13_bitCount_95d88_24 rfl ?_
  refine r_lload_n dJ13_bitCount_95d88_25 rfl ?_
  refine r_iconst dJ13_bitCount_95d88_26 ?_
  refine r_lushr dJ13_bitCount_95d88_27 ?_
  refine r_ladd dJ13_bitCount_95d88_28 ?_
  refine r_ldc2 dJ13_bitCount_95d88_29 kc_RJ13_318 ?_
  refine r_land dJ13_bitCount_95d88_32 ?_
  refine r_lstore_n dJ13_bitCount_95d88_33 rfl rfl ?_
  refine r_lload_n dJ13_bitCount_95d88_34 rfl ?_
  refine r_lload_n dJ13_bitCount_95d88_35 rfl ?_
  refine r_bipush dJ13_bitCount_95d88_36 rfl ?_
  refine r_lushr dJ13_bitCount_95d88_38 ?_
  refine r_ladd dJ13_bitCount_95d88_39 ?_
  refine r_lstore_n dJ13_bitCount_95d88_40 rfl rfl ?_
  refine r_lload_n dJ13_bitCount_95d88_41 rfl ?_
  refine r_lload_n dJ13_bitCount_95d88_42 rfl ?_
  refine r_bipush dJ13_bitCount_95d88_43 rfl ?_
  refine r_lushr dJ13_bitCount_95d88_45 ?_
  refine r_ladd dJ13_bitCount_95d88_46 ?_
  refine r_lstore_n dJ13_bitCount_95d88_47 rfl rfl ?_
  refine r_lload_n dJ13_bitCount_95d88_48 rfl ?_
  refine r_lload_n dJ13_bitCount_95d88_49 rfl ?_
  refine r_bipush dJ13_bitCount_95d88_50 rfl ?_
  refine r_lushr dJ13_bitCount_95d88_52 ?_
  refine r_ladd dJ13_bitCount_95d88_53 ?_
  refine r_lstore_n dJ13_bitCount_95d88_54 rfl rfl ?_
  refine r_lload_n dJ13_bitCount_95d88_55 rfl ?_
  refine r_l2i dJ13_bitCount_95d88_56 ?_
  refine r_bipush dJ13_bitCount_95d88_57 rfl ?_
  refine r_iand dJ13_bitCount_95d88_59 ?_
  exact r_ireturn dJ13_bitCount_95d88_60 rfl ⟨k0, _, rfl, (r32_and _ _), h⟩
