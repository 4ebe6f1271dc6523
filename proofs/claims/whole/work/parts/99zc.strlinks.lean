/-! ===== Strings: links ===== -/
abbrev M_J0_length_8abf5 : ZM := (yJ0_length_8abf5, cJ0_length_8abf5, 1, (some .int))
set_option maxRecDepth 100000 in
theorem kk_J0_length_8abf5 : ZMk M_J0_length_8abf5 := ⟨tm_4 (List.mem_of_getElem? (i := 1) (by rfl)), tm_1 (List.mem_of_getElem? (i := 15) (by decide +kernel)), ⟨by decide, by decide⟩, by decide⟩
theorem mk_J0_length_8abf5 : ZMi M_J0_length_8abf5 := ⟨kk_J0_length_8abf5, tm_3 (List.mem_of_getElem? (i := 239) (by decide +kernel)), tm_4 (List.mem_of_getElem? (i := 0) (by decide +kernel))⟩
theorem kd_J0_length_8abf5 : (parseMethodDescriptor M_J0_length_8abf5.1.desc).map (fun d => d.parameters.length) = some 0 := by decide +kernel
theorem dJ0_length_8abf5_0 : decode M_J0_length_8abf5.2.1 0 = .ok (.aload_n 0, 1) := by decide +kernel
theorem dJ0_length_8abf5_1 : decode M_J0_length_8abf5.2.1 1 = .ok (.getfield 9, 3) := by decide +kernel
theorem dJ0_length_8abf5_4 : decode M_J0_length_8abf5.2.1 4 = .ok (.arraylength, 1) := by decide +kernel
theorem dJ0_length_8abf5_5 : decode M_J0_length_8abf5.2.1 5 = .ok (.aload_n 0, 1) := by decide +kernel
theorem dJ0_length_8abf5_6 : decode M_J0_length_8abf5.2.1 6 = .ok (.invokevirtual 335, 3) := by decide +kernel
theorem dJ0_length_8abf5_9 : decode M_J0_length_8abf5.2.1 9 = .ok (.ishr, 1) := by decide +kernel
theorem dJ0_length_8abf5_10 : decode M_J0_length_8abf5.2.1 10 = .ok (.ireturn, 1) := by decide +kernel
abbrev M_J0_charAt_5068e : ZM := (yJ0_charAt_5068e, cJ0_charAt_5068e, 2, (some .char))
set_option maxRecDepth 100000 in
theorem kk_J0_charAt_5068e : ZMk M_J0_charAt_5068e := ⟨tm_4 (List.mem_of_getElem? (i := 11) (by rfl)), tm_1 (List.mem_of_getElem? (i := 15) (by decide +kernel)), ⟨by decide, by decide⟩, by decide⟩
theorem mk_J0_charAt_5068e : ZMi M_J0_charAt_5068e := ⟨kk_J0_charAt_5068e, tm_4 (List.mem_of_getElem? (i := 9) (by decide +kernel)), tm_4 (List.mem_of_getElem? (i := 10) (by decide +kernel))⟩
theorem kd_J0_charAt_5068e : (parseMethodDescriptor M_J0_charAt_5068e.1.desc).map (fun d => d.parameters.length) = some 1 := by decide +kernel
theorem dJ0_charAt_5068e_0 : decode M_J0_charAt_5068e.2.1 0 = .ok (.aload_n 0, 1) := by decide +kernel
theorem dJ0_charAt_5068e_1 : decode M_J0_charAt_5068e.2.1 1 = .ok (.invokevirtual 492, 3) := by decide +kernel
theorem dJ0_charAt_5068e_4 : decode M_J0_charAt_5068e.2.1 4 = .ok (.ifCond .eq 12, 3) := by decide +kernel
theorem dJ0_charAt_5068e_7 : decode M_J0_charAt_5068e.2.1 7 = .ok (.aload_n 0, 1) := by decide +kernel
theorem dJ0_charAt_5068e_8 : decode M_J0_charAt_5068e.2.1 8 = .ok (.getfield 9, 3) := by decide +kernel
theorem dJ0_charAt_5068e_11 : decode M_J0_charAt_5068e.2.1 11 = .ok (.iload_n 1, 1) := by decide +kernel
theorem dJ0_charAt_5068e_12 : decode M_J0_charAt_5068e.2.1 12 = .ok (.invokestatic 495, 3) := by decide +kernel
theorem dJ0_charAt_5068e_15 : decode M_J0_charAt_5068e.2.1 15 = .ok (.ireturn, 1) := by decide +kernel
theorem dJ0_charAt_5068e_16 : decode M_J0_charAt_5068e.2.1 16 = .ok (.aload_n 0, 1) := by decide +kernel
theorem dJ0_charAt_5068e_17 : decode M_J0_charAt_5068e.2.1 17 = .ok (.getfield 9, 3) := by decide +kernel
theorem dJ0_charAt_5068e_20 : decode M_J0_charAt_5068e.2.1 20 = .ok (.iload_n 1, 1) := by decide +kernel
theorem dJ0_charAt_5068e_21 : decode M_J0_charAt_5068e.2.1 21 = .ok (.invokestatic 498, 3) := by decide +kernel
theorem dJ0_charAt_5068e_24 : decode M_J0_charAt_5068e.2.1 24 = .ok (.ireturn, 1) := by decide +kernel
abbrev M_J0_coder_7d493 : ZM := (yJ0_coder_7d493, cJ0_coder_7d493, 1, (some .byte))
set_option maxRecDepth 100000 in
theorem kk_J0_coder_7d493 : ZMk M_J0_coder_7d493 := ⟨tm_4 (List.mem_of_getElem? (i := 5) (by rfl)), tm_1 (List.mem_of_getElem? (i := 15) (by decide +kernel)), ⟨by decide, by decide⟩, by decide⟩
theorem mk_J0_coder_7d493 : ZMi M_J0_coder_7d493 := ⟨kk_J0_coder_7d493, tm_4 (List.mem_of_getElem? (i := 3) (by decide +kernel)), tm_4 (List.mem_of_getElem? (i := 4) (by decide +kernel))⟩
theorem kd_J0_coder_7d493 : (parseMethodDescriptor M_J0_coder_7d493.1.desc).map (fun d => d.parameters.length) = some 0 := by decide +kernel
theorem dJ0_coder_7d493_0 : decode M_J0_coder_7d493.2.1 0 = .ok (.getstatic 38, 3) := by decide +kernel
theorem dJ0_coder_7d493_3 : decode M_J0_coder_7d493.2.1 3 = .ok (.ifCond .eq 10, 3) := by decide +kernel
theorem dJ0_coder_7d493_6 : decode M_J0_coder_7d493.2.1 6 = .ok (.aload_n 0, 1) := by decide +kernel
theorem dJ0_coder_7d493_7 : decode M_J0_coder_7d493.2.1 7 = .ok (.getfield 15, 3) := by decide +kernel
theorem dJ0_coder_7d493_10 : decode M_J0_coder_7d493.2.1 10 = .ok (.goto 4, 3) := by decide +kernel
theorem dJ0_coder_7d493_13 : decode M_J0_coder_7d493.2.1 13 = .ok (.iconst 1, 1) := by decide +kernel
theorem dJ0_coder_7d493_14 : decode M_J0_coder_7d493.2.1 14 = .ok (.ireturn, 1) := by decide +kernel
abbrev M_J0_isLatin1_aae02 : ZM := (yJ0_isLatin1_aae02, cJ0_isLatin1_aae02, 1, (some .boolean))
set_option maxRecDepth 100000 in
theorem kk_J0_isLatin1_aae02 : ZMk M_J0_isLatin1_aae02 := ⟨tm_4 (List.mem_of_getElem? (i := 15) (by rfl)), tm_1 (List.mem_of_getElem? (i := 15) (by decide +kernel)), ⟨by decide, by decide⟩, by decide⟩
theorem mk_J0_isLatin1_aae02 : ZMi M_J0_isLatin1_aae02 := ⟨kk_J0_isLatin1_aae02, tm_4 (List.mem_of_getElem? (i := 13) (by decide +kernel)), tm_4 (List.mem_of_getElem? (i := 14) (by decide +kernel))⟩
theorem kd_J0_isLatin1_aae02 : (parseMethodDescriptor M_J0_isLatin1_aae02.1.desc).map (fun d => d.parameters.length) = some 0 := by decide +kernel
theorem dJ0_isLatin1_aae02_0 : decode M_J0_isLatin1_aae02.2.1 0 = .ok (.getstatic 38, 3) := by decide +kernel
theorem dJ0_isLatin1_aae02_3 : decode M_J0_isLatin1_aae02.2.1 3 = .ok (.ifCond .eq 14, 3) := by decide +kernel
theorem dJ0_isLatin1_aae02_6 : decode M_J0_isLatin1_aae02.2.1 6 = .ok (.aload_n 0, 1) := by decide +kernel
theorem dJ0_isLatin1_aae02_7 : decode M_J0_isLatin1_aae02.2.1 7 = .ok (.getfield 15, 3) := by decide +kernel
theorem dJ0_isLatin1_aae02_10 : decode M_J0_isLatin1_aae02.2.1 10 = .ok (.ifCond .ne 7, 3) := by decide +kernel
theorem dJ0_isLatin1_aae02_13 : decode M_J0_isLatin1_aae02.2.1 13 = .ok (.iconst 1, 1) := by decide +kernel
theorem dJ0_isLatin1_aae02_14 : decode M_J0_isLatin1_aae02.2.1 14 = .ok (.goto 4, 3) := by decide +kernel
theorem dJ0_isLatin1_aae02_17 : decode M_J0_isLatin1_aae02.2.1 17 = .ok (.iconst 0, 1) := by decide +kernel
theorem dJ0_isLatin1_aae02_18 : decode M_J0_isLatin1_aae02.2.1 18 = .ok (.ireturn, 1) := by decide +kernel
abbrev M_J0_checkIndex_df160 : ZM := (yJ0_checkIndex_df160, cJ0_checkIndex_df160, 2, none)
set_option maxRecDepth 100000 in
theorem kk_J0_checkIndex_df160 : ZMk M_J0_checkIndex_df160 := ⟨tm_4 (List.mem_of_getElem? (i := 21) (by rfl)), tm_1 (List.mem_of_getElem? (i := 15) (by decide +kernel)), ⟨by decide, by decide⟩, by decide⟩
theorem mk_J0_checkIndex_df160 : ZMs M_J0_checkIndex_df160 := ⟨kk_J0_checkIndex_df160, tm_4 (List.mem_of_getElem? (i := 20) (by decide +kernel))⟩
theorem kd_J0_checkIndex_df160 : (parseMethodDescriptor M_J0_checkIndex_df160.1.desc).map (fun d => d.parameters.length) = some 2 := by decide +kernel
theorem dJ0_checkIndex_df160_0 : decode M_J0_checkIndex_df160.2.1 0 = .ok (.iload_n 0, 1) := by decide +kernel
theorem dJ0_checkIndex_df160_1 : decode M_J0_checkIndex_df160.2.1 1 = .ok (.iload_n 1, 1) := by decide +kernel
theorem dJ0_checkIndex_df160_2 : decode M_J0_checkIndex_df160.2.1 2 = .ok (.getstatic 1053, 3) := by decide +kernel
theorem dJ0_checkIndex_df160_5 : decode M_J0_checkIndex_df160.2.1 5 = .ok (.invokestatic 1059, 3) := by decide +kernel
theorem dJ0_checkIndex_df160_8 : decode M_J0_checkIndex_df160.2.1 8 = .ok (.pop, 1) := by decide +kernel
theorem dJ0_checkIndex_df160_9 : decode M_J0_checkIndex_df160.2.1 9 = .ok (.return_, 1) := by decide +kernel
abbrev M_J1_charAt_3b067 : ZM := (yJ1_charAt_3b067, cJ1_charAt_3b067, 2, (some .char))
set_option maxRecDepth 100000 in
theorem kk_J1_charAt_3b067 : ZMk M_J1_charAt_3b067 := ⟨tm_4 (List.mem_of_getElem? (i := 18) (by rfl)), tm_1 (List.mem_of_getElem? (i := 16) (by decide +kernel)), ⟨by decide, by decide⟩, by decide⟩
theorem mk_J1_charAt_3b067 : ZMs M_J1_charAt_3b067 := ⟨kk_J1_charAt_3b067, tm_4 (List.mem_of_getElem? (i := 17) (by decide +kernel))⟩
theorem kd_J1_charAt_3b067 : (parseMethodDescriptor M_J1_charAt_3b067.1.desc).map (fun d => d.parameters.length) = some 2 := by decide +kernel
theorem dJ1_charAt_3b067_0 : decode M_J1_charAt_3b067.2.1 0 = .ok (.iload_n 1, 1) := by decide +kernel
theorem dJ1_charAt_3b067_1 : decode M_J1_charAt_3b067.2.1 1 = .ok (.aload_n 0, 1) := by decide +kernel
theorem dJ1_charAt_3b067_2 : decode M_J1_charAt_3b067.2.1 2 = .ok (.arraylength, 1) := by decide +kernel
theorem dJ1_charAt_3b067_3 : decode M_J1_charAt_3b067.2.1 3 = .ok (.invokestatic 9, 3) := by decide +kernel
theorem dJ1_charAt_3b067_6 : decode M_J1_charAt_3b067.2.1 6 = .ok (.aload_n 0, 1) := by decide +kernel
theorem dJ1_charAt_3b067_7 : decode M_J1_charAt_3b067.2.1 7 = .ok (.iload_n 1, 1) := by decide +kernel
theorem dJ1_charAt_3b067_8 : decode M_J1_charAt_3b067.2.1 8 = .ok (.baload, 1) := by decide +kernel
theorem dJ1_charAt_3b067_9 : decode M_J1_charAt_3b067.2.1 9 = .ok (.sipush 255, 3) := by decide +kernel
theorem dJ1_charAt_3b067_12 : decode M_J1_charAt_3b067.2.1 12 = .ok (.iand, 1) := by decide +kernel
theorem dJ1_charAt_3b067_13 : decode M_J1_charAt_3b067.2.1 13 = .ok (.i2c, 1) := by decide +kernel
theorem dJ1_charAt_3b067_14 : decode M_J1_charAt_3b067.2.1 14 = .ok (.ireturn, 1) := by decide +kernel
abbrev M_J3_checkIndex_8e157 : ZM := (yJ3_checkIndex_8e157, cJ3_checkIndex_8e157, 3, (some .int))
set_option maxRecDepth 100000 in
theorem kk_J3_checkIndex_8e157 : ZMk M_J3_checkIndex_8e157 := ⟨tm_4 (List.mem_of_getElem? (i := 26) (by rfl)), tm_1 (List.mem_of_getElem? (i := 17) (by decide +kernel)), ⟨by decide, by decide⟩, by decide⟩
theorem mk_J3_checkIndex_8e157 : ZMs M_J3_checkIndex_8e157 := ⟨kk_J3_checkIndex_8e157, tm_4 (List.mem_of_getElem? (i := 25) (by decide +kernel))⟩
theorem kd_J3_checkIndex_8e157 : (parseMethodDescriptor M_J3_checkIndex_8e157.1.desc).map (fun d => d.parameters.length) = some 3 := by decide +kernel
theorem dJ3_checkIndex_8e157_0 : decode M_J3_checkIndex_8e157.2.1 0 = .ok (.iload_n 0, 1) := by decide +kernel
theorem dJ3_checkIndex_8e157_1 : decode M_J3_checkIndex_8e157.2.1 1 = .ok (.ifCond .lt 8, 3) := by decide +kernel
theorem dJ3_checkIndex_8e157_4 : decode M_J3_checkIndex_8e157.2.1 4 = .ok (.iload_n 0, 1) := by decide +kernel
theorem dJ3_checkIndex_8e157_5 : decode M_J3_checkIndex_8e157.2.1 5 = .ok (.iload_n 1, 1) := by decide +kernel
theorem dJ3_checkIndex_8e157_6 : decode M_J3_checkIndex_8e157.2.1 6 = .ok (.if_icmp .lt 10, 3) := by decide +kernel
theorem dJ3_checkIndex_8e157_9 : decode M_J3_checkIndex_8e157.2.1 9 = .ok (.aload_n 2, 1) := by decide +kernel
theorem dJ3_checkIndex_8e157_10 : decode M_J3_checkIndex_8e157.2.1 10 = .ok (.iload_n 0, 1) := by decide +kernel
theorem dJ3_checkIndex_8e157_11 : decode M_J3_checkIndex_8e157.2.1 11 = .ok (.iload_n 1, 1) := by decide +kernel
theorem dJ3_checkIndex_8e157_12 : decode M_J3_checkIndex_8e157.2.1 12 = .ok (.invokestatic 95, 3) := by decide +kernel
theorem dJ3_checkIndex_8e157_15 : decode M_J3_checkIndex_8e157.2.1 15 = .ok (.athrow, 1) := by decide +kernel
theorem dJ3_checkIndex_8e157_16 : decode M_J3_checkIndex_8e157.2.1 16 = .ok (.iload_n 0, 1) := by decide +kernel
theorem dJ3_checkIndex_8e157_17 : decode M_J3_checkIndex_8e157.2.1 17 = .ok (.ireturn, 1) := by decide +kernel
theorem km_RX1_29 : ZLk RX1 29 M_J0_length_8abf5 := Or.inl (tm_3 (List.mem_of_getElem? (i := 238) (by decide +kernel)))
theorem km_RX1_34 : ZLk RX1 34 M_J0_charAt_5068e := Or.inl (tm_4 (List.mem_of_getElem? (i := 8) (by decide +kernel)))
theorem km_RJ0_335 : ZLk RJ0 335 M_J0_coder_7d493 := Or.inl (tm_4 (List.mem_of_getElem? (i := 2) (by decide +kernel)))
theorem km_RJ0_492 : ZLk RJ0 492 M_J0_isLatin1_aae02 := Or.inl (tm_4 (List.mem_of_getElem? (i := 12) (by decide +kernel)))
theorem km_RJ0_495 : ZLk RJ0 495 M_J1_charAt_3b067 := Or.inl (tm_4 (List.mem_of_getElem? (i := 16) (by decide +kernel)))
theorem km_RJ0_1059 : ZLk RJ0 1059 M_J3_checkIndex_8e157 := Or.inl (tm_4 (List.mem_of_getElem? (i := 24) (by decide +kernel)))
theorem km_RJ1_9 : ZLk RJ1 9 M_J0_checkIndex_df160 := Or.inl (tm_4 (List.mem_of_getElem? (i := 19) (by decide +kernel)))
theorem kg_RJ0_9 : Cond.fieldLink RJ0 9 "java/lang/String" "value" "[B" ∈ lw_tbl := tm_7 (List.mem_of_getElem? (i := 196) (by decide +kernel))
theorem kg_RJ0_15 : Cond.fieldLink RJ0 15 "java/lang/String" "coder" "B" ∈ lw_tbl := tm_7 (List.mem_of_getElem? (i := 197) (by decide +kernel))
theorem kg_RJ0_38 : Cond.fieldLink RJ0 38 "java/lang/String" "COMPACT_STRINGS" "Z" ∈ lw_tbl := tm_4 (List.mem_of_getElem? (i := 6) (by decide +kernel))
theorem kg_RJ0_1053 : Cond.fieldLink RJ0 1053 "jdk/internal/util/Preconditions" "SIOOBE_FORMATTER" "Ljava/util/function/BiFunction;" ∈ lw_tbl := tm_4 (List.mem_of_getElem? (i := 22) (by decide +kernel))
theorem dX1_addText_0 : decode M_X1_addText.2.1 0 = .ok (.iconst 0, 1) := by decide +kernel
theorem dX1_addText_1 : decode M_X1_addText.2.1 1 = .ok (.istore_n 2, 1) := by decide +kernel
theorem dX1_addText_2 : decode M_X1_addText.2.1 2 = .ok (.iload_n 2, 1) := by decide +kernel
theorem dX1_addText_3 : decode M_X1_addText.2.1 3 = .ok (.aload_n 1, 1) := by decide +kernel
theorem dX1_addText_4 : decode M_X1_addText.2.1 4 = .ok (.invokevirtual 29, 3) := by decide +kernel
theorem dX1_addText_7 : decode M_X1_addText.2.1 7 = .ok (.if_icmp .ge 18, 3) := by decide +kernel
theorem dX1_addText_10 : decode M_X1_addText.2.1 10 = .ok (.aload_n 0, 1) := by decide +kernel
theorem dX1_addText_11 : decode M_X1_addText.2.1 11 = .ok (.aload_n 1, 1) := by decide +kernel
theorem dX1_addText_12 : decode M_X1_addText.2.1 12 = .ok (.iload_n 2, 1) := by decide +kernel
theorem dX1_addText_13 : decode M_X1_addText.2.1 13 = .ok (.invokevirtual 34, 3) := by decide +kernel
theorem dX1_addText_16 : decode M_X1_addText.2.1 16 = .ok (.invokevirtual 25, 3) := by decide +kernel
theorem dX1_addText_19 : decode M_X1_addText.2.1 19 = .ok (.iinc 2 1, 3) := by decide +kernel
theorem dX1_addText_22 : decode M_X1_addText.2.1 22 = .ok (.goto (-20), 3) := by decide +kernel
theorem dX1_addText_25 : decode M_X1_addText.2.1 25 = .ok (.return_, 1) := by decide +kernel
