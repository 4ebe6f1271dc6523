theorem dX0_init_0 : decode M_X0_init.2.1 0 = .ok (.aload_n 0, 1) := by decide +kernel
theorem dX0_init_1 : decode M_X0_init.2.1 1 = .ok (.invokespecial 3, 3) := by decide +kernel
theorem dX0_init_4 : decode M_X0_init.2.1 4 = .ok (.aload_n 0, 1) := by decide +kernel
theorem dX0_init_5 : decode M_X0_init.2.1 5 = .ok (.bipush 81, 2) := by decide +kernel
theorem dX0_init_7 : decode M_X0_init.2.1 7 = .ok (.newarray .byte, 2) := by decide +kernel
theorem dX0_init_9 : decode M_X0_init.2.1 9 = .ok (.putfield 9, 3) := by decide +kernel
theorem dX0_init_12 : decode M_X0_init.2.1 12 = .ok (.aload_n 0, 1) := by decide +kernel
theorem dX0_init_13 : decode M_X0_init.2.1 13 = .ok (.sipush 324, 3) := by decide +kernel
theorem dX0_init_16 : decode M_X0_init.2.1 16 = .ok (.newarray .int, 2) := by decide +kernel
theorem dX0_init_18 : decode M_X0_init.2.1 18 = .ok (.putfield 15, 3) := by decide +kernel
theorem dX0_init_21 : decode M_X0_init.2.1 21 = .ok (.aload_n 0, 1) := by decide +kernel
theorem dX0_init_22 : decode M_X0_init.2.1 22 = .ok (.bipush 81, 2) := by decide +kernel
theorem dX0_init_24 : decode M_X0_init.2.1 24 = .ok (.newarray .int, 2) := by decide +kernel
theorem dX0_init_26 : decode M_X0_init.2.1 26 = .ok (.putfield 19, 3) := by decide +kernel
theorem dX0_init_29 : decode M_X0_init.2.1 29 = .ok (.aload_n 0, 1) := by decide +kernel
theorem dX0_init_30 : decode M_X0_init.2.1 30 = .ok (.bipush 81, 2) := by decide +kernel
theorem dX0_init_32 : decode M_X0_init.2.1 32 = .ok (.newarray .int, 2) := by decide +kernel
theorem dX0_init_34 : decode M_X0_init.2.1 34 = .ok (.putfield 22, 3) := by decide +kernel
theorem dX0_init_37 : decode M_X0_init.2.1 37 = .ok (.aload_n 0, 1) := by decide +kernel
theorem dX0_init_38 : decode M_X0_init.2.1 38 = .ok (.bipush 81, 2) := by decide +kernel
theorem dX0_init_40 : decode M_X0_init.2.1 40 = .ok (.newarray .int, 2) := by decide +kernel
theorem dX0_init_42 : decode M_X0_init.2.1 42 = .ok (.putfield 25, 3) := by decide +kernel
theorem dX0_init_45 : decode M_X0_init.2.1 45 = .ok (.aload_n 0, 1) := by decide +kernel
theorem dX0_init_46 : decode M_X0_init.2.1 46 = .ok (.iconst 3, 1) := by decide +kernel
theorem dX0_init_47 : decode M_X0_init.2.1 47 = .ok (.newarray .int, 2) := by decide +kernel
theorem dX0_init_49 : decode M_X0_init.2.1 49 = .ok (.putfield 28, 3) := by decide +kernel
theorem dX0_init_52 : decode M_X0_init.2.1 52 = .ok (.aload_n 0, 1) := by decide +kernel
theorem dX0_init_53 : decode M_X0_init.2.1 53 = .ok (.iconst 3, 1) := by decide +kernel
theorem dX0_init_54 : decode M_X0_init.2.1 54 = .ok (.newarray .long, 2) := by decide +kernel
theorem dX0_init_56 : decode M_X0_init.2.1 56 = .ok (.putfield 31, 3) := by decide +kernel
theorem dX0_init_59 : decode M_X0_init.2.1 59 = .ok (.aload_n 0, 1) := by decide +kernel
theorem dX0_init_60 : decode M_X0_init.2.1 60 = .ok (.iconst 0, 1) := by decide +kernel
theorem dX0_init_61 : decode M_X0_init.2.1 61 = .ok (.putfield 35, 3) := by decide +kernel
theorem dX0_init_64 : decode M_X0_init.2.1 64 = .ok (.aload_n 0, 1) := by decide +kernel
theorem dX0_init_65 : decode M_X0_init.2.1 65 = .ok (.iconst 0, 1) := by decide +kernel
theorem dX0_init_66 : decode M_X0_init.2.1 66 = .ok (.putfield 39, 3) := by decide +kernel
theorem dX0_init_69 : decode M_X0_init.2.1 69 = .ok (.aload_n 0, 1) := by decide +kernel
theorem dX0_init_70 : decode M_X0_init.2.1 70 = .ok (.iconst 0, 1) := by decide +kernel
theorem dX0_init_71 : decode M_X0_init.2.1 71 = .ok (.putfield 42, 3) := by decide +kernel
theorem dX0_init_74 : decode M_X0_init.2.1 74 = .ok (.aload_n 0, 1) := by decide +kernel
theorem dX0_init_75 : decode M_X0_init.2.1 75 = .ok (.iconst 0, 1) := by decide +kernel
theorem dX0_init_76 : decode M_X0_init.2.1 76 = .ok (.putfield 45, 3) := by decide +kernel
theorem dX0_init_79 : decode M_X0_init.2.1 79 = .ok (.aload_n 0, 1) := by decide +kernel
theorem dX0_init_80 : decode M_X0_init.2.1 80 = .ok (.iconst (-1), 1) := by decide +kernel
theorem dX0_init_81 : decode M_X0_init.2.1 81 = .ok (.putfield 48, 3) := by decide +kernel
theorem dX0_init_84 : decode M_X0_init.2.1 84 = .ok (.aload_n 0, 1) := by decide +kernel
theorem dX0_init_85 : decode M_X0_init.2.1 85 = .ok (.iconst 0, 1) := by decide +kernel
theorem dX0_init_86 : decode M_X0_init.2.1 86 = .ok (.putfield 51, 3) := by decide +kernel
theorem dX0_init_89 : decode M_X0_init.2.1 89 = .ok (.return_, 1) := by decide +kernel
theorem dX1_init_0 : decode M_X1_init.2.1 0 = .ok (.aload_n 0, 1) := by decide +kernel
theorem dX1_init_1 : decode M_X1_init.2.1 1 = .ok (.invokespecial 3, 3) := by decide +kernel
theorem dX1_init_4 : decode M_X1_init.2.1 4 = .ok (.aload_n 0, 1) := by decide +kernel
theorem dX1_init_5 : decode M_X1_init.2.1 5 = .ok (.iconst 0, 1) := by decide +kernel
theorem dX1_init_6 : decode M_X1_init.2.1 6 = .ok (.putfield 9, 3) := by decide +kernel
theorem dX1_init_9 : decode M_X1_init.2.1 9 = .ok (.aload_n 0, 1) := by decide +kernel
theorem dX1_init_10 : decode M_X1_init.2.1 10 = .ok (.iload_n 1, 1) := by decide +kernel
theorem dX1_init_11 : decode M_X1_init.2.1 11 = .ok (.iconst 0, 1) := by decide +kernel
theorem dX1_init_12 : decode M_X1_init.2.1 12 = .ok (.invokestatic 15, 3) := by decide +kernel
theorem dX1_init_15 : decode M_X1_init.2.1 15 = .ok (.newarray .byte, 2) := by decide +kernel
theorem dX1_init_17 : decode M_X1_init.2.1 17 = .ok (.putfield 21, 3) := by decide +kernel
theorem dX1_init_20 : decode M_X1_init.2.1 20 = .ok (.return_, 1) := by decide +kernel
theorem dX2_init_0 : decode M_X2_init.2.1 0 = .ok (.aload_n 0, 1) := by decide +kernel
theorem dX2_init_1 : decode M_X2_init.2.1 1 = .ok (.invokespecial 3, 3) := by decide +kernel
theorem dX2_init_4 : decode M_X2_init.2.1 4 = .ok (.aload_n 0, 1) := by decide +kernel
theorem dX2_init_5 : decode M_X2_init.2.1 5 = .ok (.iconst 0, 1) := by decide +kernel
theorem dX2_init_6 : decode M_X2_init.2.1 6 = .ok (.putfield 9, 3) := by decide +kernel
theorem dX2_init_9 : decode M_X2_init.2.1 9 = .ok (.aload_n 0, 1) := by decide +kernel
theorem dX2_init_10 : decode M_X2_init.2.1 10 = .ok (.iconst 0, 1) := by decide +kernel
theorem dX2_init_11 : decode M_X2_init.2.1 11 = .ok (.putfield 15, 3) := by decide +kernel
theorem dX2_init_14 : decode M_X2_init.2.1 14 = .ok (.aload_n 0, 1) := by decide +kernel
theorem dX2_init_15 : decode M_X2_init.2.1 15 = .ok (.iconst 0, 1) := by decide +kernel
theorem dX2_init_16 : decode M_X2_init.2.1 16 = .ok (.putfield 18, 3) := by decide +kernel
theorem dX2_init_19 : decode M_X2_init.2.1 19 = .ok (.aload_n 0, 1) := by decide +kernel
theorem dX2_init_20 : decode M_X2_init.2.1 20 = .ok (.iconst 0, 1) := by decide +kernel
theorem dX2_init_21 : decode M_X2_init.2.1 21 = .ok (.putfield 21, 3) := by decide +kernel
theorem dX2_init_24 : decode M_X2_init.2.1 24 = .ok (.return_, 1) := by decide +kernel
theorem dX3_init_0 : decode M_X3_init.2.1 0 = .ok (.aload_n 0, 1) := by decide +kernel
theorem dX3_init_1 : decode M_X3_init.2.1 1 = .ok (.invokespecial 5, 3) := by decide +kernel
theorem dX3_init_4 : decode M_X3_init.2.1 4 = .ok (.aload_n 0, 1) := by decide +kernel
theorem dX3_init_5 : decode M_X3_init.2.1 5 = .ok (.sipush 1803, 3) := by decide +kernel
theorem dX3_init_8 : decode M_X3_init.2.1 8 = .ok (.newarray .long, 2) := by decide +kernel
theorem dX3_init_10 : decode M_X3_init.2.1 10 = .ok (.putfield 11, 3) := by decide +kernel
theorem dX3_init_13 : decode M_X3_init.2.1 13 = .ok (.aload_n 0, 1) := by decide +kernel
theorem dX3_init_14 : decode M_X3_init.2.1 14 = .ok (.sipush 601, 3) := by decide +kernel
theorem dX3_init_17 : decode M_X3_init.2.1 17 = .ok (.newarray .long, 2) := by decide +kernel
theorem dX3_init_19 : decode M_X3_init.2.1 19 = .ok (.putfield 15, 3) := by decide +kernel
theorem dX3_init_22 : decode M_X3_init.2.1 22 = .ok (.aload_n 0, 1) := by decide +kernel
theorem dX3_init_23 : decode M_X3_init.2.1 23 = .ok (.sipush 601, 3) := by decide +kernel
theorem dX3_init_26 : decode M_X3_init.2.1 26 = .ok (.newarray .long, 2) := by decide +kernel
theorem dX3_init_28 : decode M_X3_init.2.1 28 = .ok (.putfield 18, 3) := by decide +kernel
theorem dX3_init_31 : decode M_X3_init.2.1 31 = .ok (.aload_n 0, 1) := by decide +kernel
theorem dX3_init_32 : decode M_X3_init.2.1 32 = .ok (.sipush 601, 3) := by decide +kernel
theorem dX3_init_35 : decode M_X3_init.2.1 35 = .ok (.newarray .int, 2) := by decide +kernel
theorem dX3_init_37 : decode M_X3_init.2.1 37 = .ok (.putfield 21, 3) := by decide +kernel
theorem dX3_init_40 : decode M_X3_init.2.1 40 = .ok (.aload_n 0, 1) := by decide +kernel
theorem dX3_init_41 : decode M_X3_init.2.1 41 = .ok (.sipush 601, 3) := by decide +kernel
theorem dX3_init_44 : decode M_X3_init.2.1 44 = .ok (.newarray .int, 2) := by decide +kernel
theorem dX3_init_46 : decode M_X3_init.2.1 46 = .ok (.putfield 25, 3) := by decide +kernel
theorem dX3_init_49 : decode M_X3_init.2.1 49 = .ok (.aload_n 0, 1) := by decide +kernel
theorem dX3_init_50 : decode M_X3_init.2.1 50 = .ok (.iconst 0, 1) := by decide +kernel
theorem dX3_init_51 : decode M_X3_init.2.1 51 = .ok (.putfield 28, 3) := by decide +kernel
theorem dX3_init_54 : decode M_X3_init.2.1 54 = .ok (.aload_n 0, 1) := by decide +kernel
theorem dX3_init_55 : decode M_X3_init.2.1 55 = .ok (.iconst 1, 1) := by decide +kernel
theorem dX3_init_56 : decode M_X3_init.2.1 56 = .ok (.putfield 32, 3) := by decide +kernel
theorem dX3_init_59 : decode M_X3_init.2.1 59 = .ok (.aload_n 0, 1) := by decide +kernel
theorem dX3_init_60 : decode M_X3_init.2.1 60 = .ok (.iconst 0, 1) := by decide +kernel
theorem dX3_init_61 : decode M_X3_init.2.1 61 = .ok (.putfield 35, 3) := by decide +kernel
theorem dX3_init_64 : decode M_X3_init.2.1 64 = .ok (.aload_n 0, 1) := by decide +kernel
theorem dX3_init_65 : decode M_X3_init.2.1 65 = .ok (.iconst (-1), 1) := by decide +kernel
theorem dX3_init_66 : decode M_X3_init.2.1 66 = .ok (.putfield 38, 3) := by decide +kernel
theorem dX3_init_69 : decode M_X3_init.2.1 69 = .ok (.aload_n 0, 1) := by decide +kernel
theorem dX3_init_70 : decode M_X3_init.2.1 70 = .ok (.iconst (-1), 1) := by decide +kernel
theorem dX3_init_71 : decode M_X3_init.2.1 71 = .ok (.putfield 41, 3) := by decide +kernel
theorem dX3_init_74 : decode M_X3_init.2.1 74 = .ok (.aload_n 0, 1) := by decide +kernel
theorem dX3_init_75 : decode M_X3_init.2.1 75 = .ok (.aload_n 1, 1) := by decide +kernel
theorem dX3_init_76 : decode M_X3_init.2.1 76 = .ok (.putfield 44, 3) := by decide +kernel
theorem dX3_init_79 : decode M_X3_init.2.1 79 = .ok (.return_, 1) := by decide +kernel
theorem dX4_init_0 : decode M_X4_init.2.1 0 = .ok (.aload_n 0, 1) := by decide +kernel
theorem dX4_init_1 : decode M_X4_init.2.1 1 = .ok (.invokespecial 3, 3) := by decide +kernel
theorem dX4_init_4 : decode M_X4_init.2.1 4 = .ok (.aload_n 0, 1) := by decide +kernel
theorem dX4_init_5 : decode M_X4_init.2.1 5 = .ok (.bipush 81, 2) := by decide +kernel
theorem dX4_init_7 : decode M_X4_init.2.1 7 = .ok (.newarray .int, 2) := by decide +kernel
theorem dX4_init_9 : decode M_X4_init.2.1 9 = .ok (.putfield 9, 3) := by decide +kernel
theorem dX4_init_12 : decode M_X4_init.2.1 12 = .ok (.aload_n 0, 1) := by decide +kernel
theorem dX4_init_13 : decode M_X4_init.2.1 13 = .ok (.bipush 81, 2) := by decide +kernel
theorem dX4_init_15 : decode M_X4_init.2.1 15 = .ok (.newarray .int, 2) := by decide +kernel
theorem dX4_init_17 : decode M_X4_init.2.1 17 = .ok (.putfield 15, 3) := by decide +kernel
theorem dX4_init_20 : decode M_X4_init.2.1 20 = .ok (.aload_n 0, 1) := by decide +kernel
theorem dX4_init_21 : decode M_X4_init.2.1 21 = .ok (.bipush 64, 2) := by decide +kernel
theorem dX4_init_23 : decode M_X4_init.2.1 23 = .ok (.newarray .int, 2) := by decide +kernel
theorem dX4_init_25 : decode M_X4_init.2.1 25 = .ok (.putfield 18, 3) := by decide +kernel
theorem dX4_init_28 : decode M_X4_init.2.1 28 = .ok (.aload_n 0, 1) := by decide +kernel
theorem dX4_init_29 : decode M_X4_init.2.1 29 = .ok (.bipush 64, 2) := by decide +kernel
theorem dX4_init_31 : decode M_X4_init.2.1 31 = .ok (.newarray .int, 2) := by decide +kernel
theorem dX4_init_33 : decode M_X4_init.2.1 33 = .ok (.putfield 21, 3) := by decide +kernel
theorem dX4_init_36 : decode M_X4_init.2.1 36 = .ok (.aload_n 0, 1) := by decide +kernel
theorem dX4_init_37 : decode M_X4_init.2.1 37 = .ok (.bipush 64, 2) := by decide +kernel
theorem dX4_init_39 : decode M_X4_init.2.1 39 = .ok (.newarray .int, 2) := by decide +kernel
theorem dX4_init_41 : decode M_X4_init.2.1 41 = .ok (.putfield 24, 3) := by decide +kernel
theorem dX4_init_44 : decode M_X4_init.2.1 44 = .ok (.aload_n 0, 1) := by decide +kernel
theorem dX4_init_45 : decode M_X4_init.2.1 45 = .ok (.bipush 64, 2) := by decide +kernel
theorem dX4_init_47 : decode M_X4_init.2.1 47 = .ok (.newarray .long, 2) := by decide +kernel
theorem dX4_init_49 : decode M_X4_init.2.1 49 = .ok (.putfield 27, 3) := by decide +kernel
theorem dX4_init_52 : decode M_X4_init.2.1 52 = .ok (.aload_n 0, 1) := by decide +kernel
theorem dX4_init_53 : decode M_X4_init.2.1 53 = .ok (.bipush 64, 2) := by decide +kernel
theorem dX4_init_55 : decode M_X4_init.2.1 55 = .ok (.newarray .long, 2) := by decide +kernel
theorem dX4_init_57 : decode M_X4_init.2.1 57 = .ok (.putfield 31, 3) := by decide +kernel
theorem dX4_init_60 : decode M_X4_init.2.1 60 = .ok (.aload_n 0, 1) := by decide +kernel
theorem dX4_init_61 : decode M_X4_init.2.1 61 = .ok (.iconst 0, 1) := by decide +kernel
theorem dX4_init_62 : decode M_X4_init.2.1 62 = .ok (.putfield 34, 3) := by decide +kernel
theorem dX4_init_65 : decode M_X4_init.2.1 65 = .ok (.aload_n 0, 1) := by decide +kernel
theorem dX4_init_66 : decode M_X4_init.2.1 66 = .ok (.iconst 0, 1) := by decide +kernel
theorem dX4_init_67 : decode M_X4_init.2.1 67 = .ok (.putfield 38, 3) := by decide +kernel
theorem dX4_init_70 : decode M_X4_init.2.1 70 = .ok (.aload_n 0, 1) := by decide +kernel
theorem dX4_init_71 : decode M_X4_init.2.1 71 = .ok (.aload_n 1, 1) := by decide +kernel
theorem dX4_init_72 : decode M_X4_init.2.1 72 = .ok (.putfield 41, 3) := by decide +kernel
theorem dX4_init_75 : decode M_X4_init.2.1 75 = .ok (.return_, 1) := by decide +kernel
theorem dX5_init_0 : decode M_X5_init.2.1 0 = .ok (.aload_n 0, 1) := by decide +kernel
theorem dX5_init_1 : decode M_X5_init.2.1 1 = .ok (.invokespecial 5, 3) := by decide +kernel
theorem dX5_init_4 : decode M_X5_init.2.1 4 = .ok (.aload_n 0, 1) := by decide +kernel
theorem dX5_init_5 : decode M_X5_init.2.1 5 = .ok (.sipush 252, 3) := by decide +kernel
theorem dX5_init_8 : decode M_X5_init.2.1 8 = .ok (.newarray .int, 2) := by decide +kernel
theorem dX5_init_10 : decode M_X5_init.2.1 10 = .ok (.putfield 11, 3) := by decide +kernel
theorem dX5_init_13 : decode M_X5_init.2.1 13 = .ok (.aload_n 0, 1) := by decide +kernel
theorem dX5_init_14 : decode M_X5_init.2.1 14 = .ok (.iconst 3, 1) := by decide +kernel
theorem dX5_init_15 : decode M_X5_init.2.1 15 = .ok (.newarray .long, 2) := by decide +kernel
theorem dX5_init_17 : decode M_X5_init.2.1 17 = .ok (.putfield 15, 3) := by decide +kernel
theorem dX5_init_20 : decode M_X5_init.2.1 20 = .ok (.aload_n 0, 1) := by decide +kernel
theorem dX5_init_21 : decode M_X5_init.2.1 21 = .ok (.iconst 1, 1) := by decide +kernel
theorem dX5_init_22 : decode M_X5_init.2.1 22 = .ok (.putfield 19, 3) := by decide +kernel
theorem dX5_init_25 : decode M_X5_init.2.1 25 = .ok (.aload_n 0, 1) := by decide +kernel
theorem dX5_init_26 : decode M_X5_init.2.1 26 = .ok (.iconst 0, 1) := by decide +kernel
theorem dX5_init_27 : decode M_X5_init.2.1 27 = .ok (.putfield 23, 3) := by decide +kernel
theorem dX5_init_30 : decode M_X5_init.2.1 30 = .ok (.aload_n 0, 1) := by decide +kernel
theorem dX5_init_31 : decode M_X5_init.2.1 31 = .ok (.iconst 0, 1) := by decide +kernel
theorem dX5_init_32 : decode M_X5_init.2.1 32 = .ok (.putfield 26, 3) := by decide +kernel
theorem dX5_init_35 : decode M_X5_init.2.1 35 = .ok (.aload_n 0, 1) := by decide +kernel
theorem dX5_init_36 : decode M_X5_init.2.1 36 = .ok (.iconst 0, 1) := by decide +kernel
theorem dX5_init_37 : decode M_X5_init.2.1 37 = .ok (.putfield 29, 3) := by decide +kernel
theorem dX5_init_40 : decode M_X5_init.2.1 40 = .ok (.aload_n 0, 1) := by decide +kernel
theorem dX5_init_41 : decode M_X5_init.2.1 41 = .ok (.iconst (-1), 1) := by decide +kernel
theorem dX5_init_42 : decode M_X5_init.2.1 42 = .ok (.putfield 32, 3) := by decide +kernel
theorem dX5_init_45 : decode M_X5_init.2.1 45 = .ok (.aload_n 0, 1) := by decide +kernel
theorem dX5_init_46 : decode M_X5_init.2.1 46 = .ok (.iconst 0, 1) := by decide +kernel
theorem dX5_init_47 : decode M_X5_init.2.1 47 = .ok (.putfield 35, 3) := by decide +kernel
theorem dX5_init_50 : decode M_X5_init.2.1 50 = .ok (.aload_n 0, 1) := by decide +kernel
theorem dX5_init_51 : decode M_X5_init.2.1 51 = .ok (.iconst (-1), 1) := by decide +kernel
theorem dX5_init_52 : decode M_X5_init.2.1 52 = .ok (.putfield 38, 3) := by decide +kernel
theorem dX5_init_55 : decode M_X5_init.2.1 55 = .ok (.aload_n 0, 1) := by decide +kernel
theorem dX5_init_56 : decode M_X5_init.2.1 56 = .ok (.iconst 0, 1) := by decide +kernel
theorem dX5_init_57 : decode M_X5_init.2.1 57 = .ok (.putfield 41, 3) := by decide +kernel
theorem dX5_init_60 : decode M_X5_init.2.1 60 = .ok (.aload_n 0, 1) := by decide +kernel
theorem dX5_init_61 : decode M_X5_init.2.1 61 = .ok (.iconst 0, 1) := by decide +kernel
theorem dX5_init_62 : decode M_X5_init.2.1 62 = .ok (.putfield 44, 3) := by decide +kernel
theorem dX5_init_65 : decode M_X5_init.2.1 65 = .ok (.aload_n 0, 1) := by decide +kernel
theorem dX5_init_66 : decode M_X5_init.2.1 66 = .ok (.iconst 0, 1) := by decide +kernel
theorem dX5_init_67 : decode M_X5_init.2.1 67 = .ok (.putfield 47, 3) := by decide +kernel
theorem dX5_init_70 : decode M_X5_init.2.1 70 = .ok (.aload_n 0, 1) := by decide +kernel
theorem dX5_init_71 : decode M_X5_init.2.1 71 = .ok (.iconst (-1), 1) := by decide +kernel
theorem dX5_init_72 : decode M_X5_init.2.1 72 = .ok (.putfield 50, 3) := by decide +kernel
theorem dX5_init_75 : decode M_X5_init.2.1 75 = .ok (.aload_n 0, 1) := by decide +kernel
theorem dX5_init_76 : decode M_X5_init.2.1 76 = .ok (.aload_n 1, 1) := by decide +kernel
theorem dX5_init_77 : decode M_X5_init.2.1 77 = .ok (.putfield 53, 3) := by decide +kernel
theorem dX5_init_80 : decode M_X5_init.2.1 80 = .ok (.aload_n 0, 1) := by decide +kernel
theorem dX5_init_81 : decode M_X5_init.2.1 81 = .ok (.aload_n 2, 1) := by decide +kernel
theorem dX5_init_82 : decode M_X5_init.2.1 82 = .ok (.putfield 57, 3) := by decide +kernel
theorem dX5_init_85 : decode M_X5_init.2.1 85 = .ok (.aload_n 0, 1) := by decide +kernel
theorem dX5_init_86 : decode M_X5_init.2.1 86 = .ok (.aload_n 3, 1) := by decide +kernel
theorem dX5_init_87 : decode M_X5_init.2.1 87 = .ok (.putfield 61, 3) := by decide +kernel
theorem dX5_init_90 : decode M_X5_init.2.1 90 = .ok (.return_, 1) := by decide +kernel
theorem dX6_init_0 : decode M_X6_init.2.1 0 = .ok (.aload_n 0, 1) := by decide +kernel
theorem dX6_init_1 : decode M_X6_init.2.1 1 = .ok (.invokespecial 3, 3) := by decide +kernel
theorem dX6_init_4 : decode M_X6_init.2.1 4 = .ok (.aload_n 0, 1) := by decide +kernel
theorem dX6_init_5 : decode M_X6_init.2.1 5 = .ok (.bipush 81, 2) := by decide +kernel
theorem dX6_init_7 : decode M_X6_init.2.1 7 = .ok (.newarray .boolean, 2) := by decide +kernel
theorem dX6_init_9 : decode M_X6_init.2.1 9 = .ok (.putfield 9, 3) := by decide +kernel
theorem dX6_init_12 : decode M_X6_init.2.1 12 = .ok (.aload_n 0, 1) := by decide +kernel
theorem dX6_init_13 : decode M_X6_init.2.1 13 = .ok (.iconst 3, 1) := by decide +kernel
theorem dX6_init_14 : decode M_X6_init.2.1 14 = .ok (.newarray .int, 2) := by decide +kernel
theorem dX6_init_16 : decode M_X6_init.2.1 16 = .ok (.putfield 15, 3) := by decide +kernel
theorem dX6_init_19 : decode M_X6_init.2.1 19 = .ok (.aload_n 0, 1) := by decide +kernel
theorem dX6_init_20 : decode M_X6_init.2.1 20 = .ok (.iconst 3, 1) := by decide +kernel
theorem dX6_init_21 : decode M_X6_init.2.1 21 = .ok (.newarray .int, 2) := by decide +kernel
theorem dX6_init_23 : decode M_X6_init.2.1 23 = .ok (.putfield 19, 3) := by decide +kernel
theorem dX6_init_26 : decode M_X6_init.2.1 26 = .ok (.aload_n 0, 1) := by decide +kernel
theorem dX6_init_27 : decode M_X6_init.2.1 27 = .ok (.aload_n 1, 1) := by decide +kernel
theorem dX6_init_28 : decode M_X6_init.2.1 28 = .ok (.putfield 22, 3) := by decide +kernel
theorem dX6_init_31 : decode M_X6_init.2.1 31 = .ok (.aload_n 0, 1) := by decide +kernel
theorem dX6_init_32 : decode M_X6_init.2.1 32 = .ok (.aload_n 2, 1) := by decide +kernel
theorem dX6_init_33 : decode M_X6_init.2.1 33 = .ok (.putfield 26, 3) := by decide +kernel
theorem dX6_init_36 : decode M_X6_init.2.1 36 = .ok (.return_, 1) := by decide +kernel
theorem dX7_init_0 : decode M_X7_init.2.1 0 = .ok (.aload_n 0, 1) := by decide +kernel
theorem dX7_init_1 : decode M_X7_init.2.1 1 = .ok (.invokespecial 3, 3) := by decide +kernel
theorem dX7_init_4 : decode M_X7_init.2.1 4 = .ok (.aload_n 0, 1) := by decide +kernel
theorem dX7_init_5 : decode M_X7_init.2.1 5 = .ok (.sipush 250, 3) := by decide +kernel
theorem dX7_init_8 : decode M_X7_init.2.1 8 = .ok (.newarray .int, 2) := by decide +kernel
theorem dX7_init_10 : decode M_X7_init.2.1 10 = .ok (.putfield 9, 3) := by decide +kernel
theorem dX7_init_13 : decode M_X7_init.2.1 13 = .ok (.aload_n 0, 1) := by decide +kernel
theorem dX7_init_14 : decode M_X7_init.2.1 14 = .ok (.sipush 250, 3) := by decide +kernel
theorem dX7_init_17 : decode M_X7_init.2.1 17 = .ok (.newarray .int, 2) := by decide +kernel
theorem dX7_init_19 : decode M_X7_init.2.1 19 = .ok (.putfield 15, 3) := by decide +kernel
theorem dX7_init_22 : decode M_X7_init.2.1 22 = .ok (.aload_n 0, 1) := by decide +kernel
theorem dX7_init_23 : decode M_X7_init.2.1 23 = .ok (.sipush 250, 3) := by decide +kernel
theorem dX7_init_26 : decode M_X7_init.2.1 26 = .ok (.newarray .int, 2) := by decide +kernel
theorem dX7_init_28 : decode M_X7_init.2.1 28 = .ok (.putfield 18, 3) := by decide +kernel
theorem dX7_init_31 : decode M_X7_init.2.1 31 = .ok (.aload_n 0, 1) := by decide +kernel
theorem dX7_init_32 : decode M_X7_init.2.1 32 = .ok (.sipush 250, 3) := by decide +kernel
theorem dX7_init_35 : decode M_X7_init.2.1 35 = .ok (.newarray .int, 2) := by decide +kernel
theorem dX7_init_37 : decode M_X7_init.2.1 37 = .ok (.putfield 21, 3) := by decide +kernel
theorem dX7_init_40 : decode M_X7_init.2.1 40 = .ok (.aload_n 0, 1) := by decide +kernel
theorem dX7_init_41 : decode M_X7_init.2.1 41 = .ok (.sipush 250, 3) := by decide +kernel
theorem dX7_init_44 : decode M_X7_init.2.1 44 = .ok (.newarray .int, 2) := by decide +kernel
theorem dX7_init_46 : decode M_X7_init.2.1 46 = .ok (.putfield 24, 3) := by decide +kernel
theorem dX7_init_49 : decode M_X7_init.2.1 49 = .ok (.aload_n 0, 1) := by decide +kernel
theorem dX7_init_50 : decode M_X7_init.2.1 50 = .ok (.sipush 250, 3) := by decide +kernel
theorem dX7_init_53 : decode M_X7_init.2.1 53 = .ok (.newarray .int, 2) := by decide +kernel
theorem dX7_init_55 : decode M_X7_init.2.1 55 = .ok (.putfield 27, 3) := by decide +kernel
theorem dX7_init_58 : decode M_X7_init.2.1 58 = .ok (.aload_n 0, 1) := by decide +kernel
theorem dX7_init_59 : decode M_X7_init.2.1 59 = .ok (.sipush 250, 3) := by decide +kernel
theorem dX7_init_62 : decode M_X7_init.2.1 62 = .ok (.newarray .int, 2) := by decide +kernel
theorem dX7_init_64 : decode M_X7_init.2.1 64 = .ok (.putfield 30, 3) := by decide +kernel
theorem dX7_init_67 : decode M_X7_init.2.1 67 = .ok (.aload_n 0, 1) := by decide +kernel
theorem dX7_init_68 : decode M_X7_init.2.1 68 = .ok (.sipush 250, 3) := by decide +kernel
theorem dX7_init_71 : decode M_X7_init.2.1 71 = .ok (.newarray .int, 2) := by decide +kernel
theorem dX7_init_73 : decode M_X7_init.2.1 73 = .ok (.putfield 33, 3) := by decide +kernel
theorem dX7_init_76 : decode M_X7_init.2.1 76 = .ok (.aload_n 0, 1) := by decide +kernel
theorem dX7_init_77 : decode M_X7_init.2.1 77 = .ok (.sipush 250, 3) := by decide +kernel
theorem dX7_init_80 : decode M_X7_init.2.1 80 = .ok (.newarray .int, 2) := by decide +kernel
theorem dX7_init_82 : decode M_X7_init.2.1 82 = .ok (.putfield 36, 3) := by decide +kernel
theorem dX7_init_85 : decode M_X7_init.2.1 85 = .ok (.aload_n 0, 1) := by decide +kernel
theorem dX7_init_86 : decode M_X7_init.2.1 86 = .ok (.sipush 250, 3) := by decide +kernel
theorem dX7_init_89 : decode M_X7_init.2.1 89 = .ok (.newarray .int, 2) := by decide +kernel
theorem dX7_init_91 : decode M_X7_init.2.1 91 = .ok (.putfield 39, 3) := by decide +kernel
theorem dX7_init_94 : decode M_X7_init.2.1 94 = .ok (.aload_n 0, 1) := by decide +kernel
theorem dX7_init_95 : decode M_X7_init.2.1 95 = .ok (.sipush 250, 3) := by decide +kernel
theorem dX7_init_98 : decode M_X7_init.2.1 98 = .ok (.newarray .int, 2) := by decide +kernel
theorem dX7_init_100 : decode M_X7_init.2.1 100 = .ok (.putfield 42, 3) := by decide +kernel
theorem dX7_init_103 : decode M_X7_init.2.1 103 = .ok (.aload_n 0, 1) := by decide +kernel
theorem dX7_init_104 : decode M_X7_init.2.1 104 = .ok (.sipush 750, 3) := by decide +kernel
theorem dX7_init_107 : decode M_X7_init.2.1 107 = .ok (.newarray .long, 2) := by decide +kernel
theorem dX7_init_109 : decode M_X7_init.2.1 109 = .ok (.putfield 45, 3) := by decide +kernel
theorem dX7_init_112 : decode M_X7_init.2.1 112 = .ok (.aload_n 0, 1) := by decide +kernel
theorem dX7_init_113 : decode M_X7_init.2.1 113 = .ok (.sipush 750, 3) := by decide +kernel
theorem dX7_init_116 : decode M_X7_init.2.1 116 = .ok (.newarray .long, 2) := by decide +kernel
theorem dX7_init_118 : decode M_X7_init.2.1 118 = .ok (.putfield 49, 3) := by decide +kernel
theorem dX7_init_121 : decode M_X7_init.2.1 121 = .ok (.aload_n 0, 1) := by decide +kernel
theorem dX7_init_122 : decode M_X7_init.2.1 122 = .ok (.bipush 9, 2) := by decide +kernel
theorem dX7_init_124 : decode M_X7_init.2.1 124 = .ok (.putfield 52, 3) := by decide +kernel
theorem dX7_init_127 : decode M_X7_init.2.1 127 = .ok (.aload_n 0, 1) := by decide +kernel
theorem dX7_init_128 : decode M_X7_init.2.1 128 = .ok (.iconst 0, 1) := by decide +kernel
theorem dX7_init_129 : decode M_X7_init.2.1 129 = .ok (.putfield 56, 3) := by decide +kernel
theorem dX7_init_132 : decode M_X7_init.2.1 132 = .ok (.aload_n 0, 1) := by decide +kernel
theorem dX7_init_133 : decode M_X7_init.2.1 133 = .ok (.iconst 0, 1) := by decide +kernel
theorem dX7_init_134 : decode M_X7_init.2.1 134 = .ok (.putfield 59, 3) := by decide +kernel
theorem dX7_init_137 : decode M_X7_init.2.1 137 = .ok (.aload_n 0, 1) := by decide +kernel
theorem dX7_init_138 : decode M_X7_init.2.1 138 = .ok (.iconst 0, 1) := by decide +kernel
theorem dX7_init_139 : decode M_X7_init.2.1 139 = .ok (.putfield 62, 3) := by decide +kernel
theorem dX7_init_142 : decode M_X7_init.2.1 142 = .ok (.return_, 1) := by decide +kernel
theorem dX8_init_0 : decode M_X8_init.2.1 0 = .ok (.aload_n 0, 1) := by decide +kernel
theorem dX8_init_1 : decode M_X8_init.2.1 1 = .ok (.invokespecial 3, 3) := by decide +kernel
theorem dX8_init_4 : decode M_X8_init.2.1 4 = .ok (.aload_n 0, 1) := by decide +kernel
theorem dX8_init_5 : decode M_X8_init.2.1 5 = .ok (.aload_n 1, 1) := by decide +kernel
theorem dX8_init_6 : decode M_X8_init.2.1 6 = .ok (.putfield 9, 3) := by decide +kernel
theorem dX8_init_9 : decode M_X8_init.2.1 9 = .ok (.return_, 1) := by decide +kernel
theorem dX9_init_0 : decode M_X9_init.2.1 0 = .ok (.aload_n 0, 1) := by decide +kernel
theorem dX9_init_1 : decode M_X9_init.2.1 1 = .ok (.invokespecial 1, 3) := by decide +kernel
theorem dX9_init_4 : decode M_X9_init.2.1 4 = .ok (.aload_n 0, 1) := by decide +kernel
theorem dX9_init_5 : decode M_X9_init.2.1 5 = .ok (.new 7, 3) := by decide +kernel
theorem dX9_init_8 : decode M_X9_init.2.1 8 = .ok (.dup, 1) := by decide +kernel
theorem dX9_init_9 : decode M_X9_init.2.1 9 = .ok (.invokespecial 9, 3) := by decide +kernel
theorem dX9_init_12 : decode M_X9_init.2.1 12 = .ok (.putfield 10, 3) := by decide +kernel
theorem dX9_init_15 : decode M_X9_init.2.1 15 = .ok (.aload_n 0, 1) := by decide +kernel
theorem dX9_init_16 : decode M_X9_init.2.1 16 = .ok (.new 7, 3) := by decide +kernel
theorem dX9_init_19 : decode M_X9_init.2.1 19 = .ok (.dup, 1) := by decide +kernel
theorem dX9_init_20 : decode M_X9_init.2.1 20 = .ok (.invokespecial 9, 3) := by decide +kernel
theorem dX9_init_23 : decode M_X9_init.2.1 23 = .ok (.putfield 16, 3) := by decide +kernel
theorem dX9_init_26 : decode M_X9_init.2.1 26 = .ok (.aload_n 0, 1) := by decide +kernel
theorem dX9_init_27 : decode M_X9_init.2.1 27 = .ok (.new 19, 3) := by decide +kernel
theorem dX9_init_30 : decode M_X9_init.2.1 30 = .ok (.dup, 1) := by decide +kernel
theorem dX9_init_31 : decode M_X9_init.2.1 31 = .ok (.sipush 1500, 3) := by decide +kernel
theorem dX9_init_34 : decode M_X9_init.2.1 34 = .ok (.invokespecial 21, 3) := by decide +kernel
theorem dX9_init_37 : decode M_X9_init.2.1 37 = .ok (.putfield 24, 3) := by decide +kernel
theorem dX9_init_40 : decode M_X9_init.2.1 40 = .ok (.aload_n 0, 1) := by decide +kernel
theorem dX9_init_41 : decode M_X9_init.2.1 41 = .ok (.new 19, 3) := by decide +kernel
theorem dX9_init_44 : decode M_X9_init.2.1 44 = .ok (.dup, 1) := by decide +kernel
theorem dX9_init_45 : decode M_X9_init.2.1 45 = .ok (.sipush 4096, 3) := by decide +kernel
theorem dX9_init_48 : decode M_X9_init.2.1 48 = .ok (.invokespecial 21, 3) := by decide +kernel
theorem dX9_init_51 : decode M_X9_init.2.1 51 = .ok (.putfield 28, 3) := by decide +kernel
theorem dX9_init_54 : decode M_X9_init.2.1 54 = .ok (.aload_n 0, 1) := by decide +kernel
theorem dX9_init_55 : decode M_X9_init.2.1 55 = .ok (.new 31, 3) := by decide +kernel
theorem dX9_init_58 : decode M_X9_init.2.1 58 = .ok (.dup, 1) := by decide +kernel
theorem dX9_init_59 : decode M_X9_init.2.1 59 = .ok (.invokespecial 33, 3) := by decide +kernel
theorem dX9_init_62 : decode M_X9_init.2.1 62 = .ok (.putfield 34, 3) := by decide +kernel
theorem dX9_init_65 : decode M_X9_init.2.1 65 = .ok (.aload_n 0, 1) := by decide +kernel
theorem dX9_init_66 : decode M_X9_init.2.1 66 = .ok (.new 31, 3) := by decide +kernel
theorem dX9_init_69 : decode M_X9_init.2.1 69 = .ok (.dup, 1) := by decide +kernel
theorem dX9_init_70 : decode M_X9_init.2.1 70 = .ok (.invokespecial 33, 3) := by decide +kernel
theorem dX9_init_73 : decode M_X9_init.2.1 73 = .ok (.putfield 38, 3) := by decide +kernel
theorem dX9_init_76 : decode M_X9_init.2.1 76 = .ok (.aload_n 0, 1) := by decide +kernel
theorem dX9_init_77 : decode M_X9_init.2.1 77 = .ok (.new 41, 3) := by decide +kernel
theorem dX9_init_80 : decode M_X9_init.2.1 80 = .ok (.dup, 1) := by decide +kernel
theorem dX9_init_81 : decode M_X9_init.2.1 81 = .ok (.aload_n 0, 1) := by decide +kernel
theorem dX9_init_82 : decode M_X9_init.2.1 82 = .ok (.getfield 24, 3) := by decide +kernel
theorem dX9_init_85 : decode M_X9_init.2.1 85 = .ok (.aload_n 0, 1) := by decide +kernel
theorem dX9_init_86 : decode M_X9_init.2.1 86 = .ok (.getfield 38, 3) := by decide +kernel
theorem dX9_init_89 : decode M_X9_init.2.1 89 = .ok (.aload_n 0, 1) := by decide +kernel
theorem dX9_init_90 : decode M_X9_init.2.1 90 = .ok (.getfield 16, 3) := by decide +kernel
theorem dX9_init_93 : decode M_X9_init.2.1 93 = .ok (.invokespecial 43, 3) := by decide +kernel
theorem dX9_init_96 : decode M_X9_init.2.1 96 = .ok (.putfield 46, 3) := by decide +kernel
theorem dX9_init_99 : decode M_X9_init.2.1 99 = .ok (.aload_n 0, 1) := by decide +kernel
theorem dX9_init_100 : decode M_X9_init.2.1 100 = .ok (.new 50, 3) := by decide +kernel
theorem dX9_init_103 : decode M_X9_init.2.1 103 = .ok (.dup, 1) := by decide +kernel
theorem dX9_init_104 : decode M_X9_init.2.1 104 = .ok (.aload_n 0, 1) := by decide +kernel
theorem dX9_init_105 : decode M_X9_init.2.1 105 = .ok (.getfield 28, 3) := by decide +kernel
theorem dX9_init_108 : decode M_X9_init.2.1 108 = .ok (.invokespecial 52, 3) := by decide +kernel
theorem dX9_init_111 : decode M_X9_init.2.1 111 = .ok (.putfield 55, 3) := by decide +kernel
theorem dX9_init_114 : decode M_X9_init.2.1 114 = .ok (.aload_n 0, 1) := by decide +kernel
theorem dX9_init_115 : decode M_X9_init.2.1 115 = .ok (.new 59, 3) := by decide +kernel
theorem dX9_init_118 : decode M_X9_init.2.1 118 = .ok (.dup, 1) := by decide +kernel
theorem dX9_init_119 : decode M_X9_init.2.1 119 = .ok (.aload_n 0, 1) := by decide +kernel
theorem dX9_init_120 : decode M_X9_init.2.1 120 = .ok (.getfield 34, 3) := by decide +kernel
theorem dX9_init_123 : decode M_X9_init.2.1 123 = .ok (.invokespecial 61, 3) := by decide +kernel
theorem dX9_init_126 : decode M_X9_init.2.1 126 = .ok (.putfield 64, 3) := by decide +kernel
theorem dX9_init_129 : decode M_X9_init.2.1 129 = .ok (.aload_n 0, 1) := by decide +kernel
theorem dX9_init_130 : decode M_X9_init.2.1 130 = .ok (.new 68, 3) := by decide +kernel
theorem dX9_init_133 : decode M_X9_init.2.1 133 = .ok (.dup, 1) := by decide +kernel
theorem dX9_init_134 : decode M_X9_init.2.1 134 = .ok (.aload_n 0, 1) := by decide +kernel
theorem dX9_init_135 : decode M_X9_init.2.1 135 = .ok (.getfield 38, 3) := by decide +kernel
theorem dX9_init_138 : decode M_X9_init.2.1 138 = .ok (.invokespecial 70, 3) := by decide +kernel
theorem dX9_init_141 : decode M_X9_init.2.1 141 = .ok (.putfield 71, 3) := by decide +kernel
theorem dX9_init_144 : decode M_X9_init.2.1 144 = .ok (.aload_n 0, 1) := by decide +kernel
theorem dX9_init_145 : decode M_X9_init.2.1 145 = .ok (.new 75, 3) := by decide +kernel
theorem dX9_init_148 : decode M_X9_init.2.1 148 = .ok (.dup, 1) := by decide +kernel
theorem dX9_init_149 : decode M_X9_init.2.1 149 = .ok (.aload_n 0, 1) := by decide +kernel
theorem dX9_init_150 : decode M_X9_init.2.1 150 = .ok (.getfield 34, 3) := by decide +kernel
theorem dX9_init_153 : decode M_X9_init.2.1 153 = .ok (.aload_n 0, 1) := by decide +kernel
theorem dX9_init_154 : decode M_X9_init.2.1 154 = .ok (.getfield 38, 3) := by decide +kernel
theorem dX9_init_157 : decode M_X9_init.2.1 157 = .ok (.invokespecial 77, 3) := by decide +kernel
theorem dX9_init_160 : decode M_X9_init.2.1 160 = .ok (.putfield 80, 3) := by decide +kernel
theorem dX9_init_163 : decode M_X9_init.2.1 163 = .ok (.aload_n 0, 1) := by decide +kernel
theorem dX9_init_164 : decode M_X9_init.2.1 164 = .ok (.new 84, 3) := by decide +kernel
theorem dX9_init_167 : decode M_X9_init.2.1 167 = .ok (.dup, 1) := by decide +kernel
theorem dX9_init_168 : decode M_X9_init.2.1 168 = .ok (.invokespecial 86, 3) := by decide +kernel
theorem dX9_init_171 : decode M_X9_init.2.1 171 = .ok (.putfield 87, 3) := by decide +kernel
theorem dX9_init_174 : decode M_X9_init.2.1 174 = .ok (.aload_n 0, 1) := by decide +kernel
theorem dX9_init_175 : decode M_X9_init.2.1 175 = .ok (.new 84, 3) := by decide +kernel
theorem dX9_init_178 : decode M_X9_init.2.1 178 = .ok (.dup, 1) := by decide +kernel
theorem dX9_init_179 : decode M_X9_init.2.1 179 = .ok (.invokespecial 86, 3) := by decide +kernel
theorem dX9_init_182 : decode M_X9_init.2.1 182 = .ok (.putfield 91, 3) := by decide +kernel
theorem dX9_init_185 : decode M_X9_init.2.1 185 = .ok (.aload_n 0, 1) := by decide +kernel
theorem dX9_init_186 : decode M_X9_init.2.1 186 = .ok (.iconst 1, 1) := by decide +kernel
theorem dX9_init_187 : decode M_X9_init.2.1 187 = .ok (.putfield 94, 3) := by decide +kernel
theorem dX9_init_190 : decode M_X9_init.2.1 190 = .ok (.aload_n 0, 1) := by decide +kernel
theorem dX9_init_191 : decode M_X9_init.2.1 191 = .ok (.bipush 9, 2) := by decide +kernel
theorem dX9_init_193 : decode M_X9_init.2.1 193 = .ok (.iconst 0, 1) := by decide +kernel
theorem dX9_init_194 : decode M_X9_init.2.1 194 = .ok (.invokevirtual 98, 3) := by decide +kernel
theorem dX9_init_197 : decode M_X9_init.2.1 197 = .ok (.return_, 1) := by decide +kernel
theorem dX10_init_0 : decode M_X10_init.2.1 0 = .ok (.aload_n 0, 1) := by decide +kernel
theorem dX10_init_1 : decode M_X10_init.2.1 1 = .ok (.invokespecial 1, 3) := by decide +kernel
theorem dX10_init_4 : decode M_X10_init.2.1 4 = .ok (.aload_n 0, 1) := by decide +kernel
theorem dX10_init_5 : decode M_X10_init.2.1 5 = .ok (.sipush 500, 3) := by decide +kernel
theorem dX10_init_8 : decode M_X10_init.2.1 8 = .ok (.newarray .int, 2) := by decide +kernel
theorem dX10_init_10 : decode M_X10_init.2.1 10 = .ok (.putfield 7, 3) := by decide +kernel
theorem dX10_init_13 : decode M_X10_init.2.1 13 = .ok (.aload_n 0, 1) := by decide +kernel
theorem dX10_init_14 : decode M_X10_init.2.1 14 = .ok (.sipush 500, 3) := by decide +kernel
theorem dX10_init_17 : decode M_X10_init.2.1 17 = .ok (.newarray .int, 2) := by decide +kernel
theorem dX10_init_19 : decode M_X10_init.2.1 19 = .ok (.putfield 13, 3) := by decide +kernel
theorem dX10_init_22 : decode M_X10_init.2.1 22 = .ok (.aload_n 0, 1) := by decide +kernel
theorem dX10_init_23 : decode M_X10_init.2.1 23 = .ok (.sipush 500, 3) := by decide +kernel
theorem dX10_init_26 : decode M_X10_init.2.1 26 = .ok (.newarray .int, 2) := by decide +kernel
theorem dX10_init_28 : decode M_X10_init.2.1 28 = .ok (.putfield 16, 3) := by decide +kernel
theorem dX10_init_31 : decode M_X10_init.2.1 31 = .ok (.aload_n 0, 1) := by decide +kernel
theorem dX10_init_32 : decode M_X10_init.2.1 32 = .ok (.sipush 500, 3) := by decide +kernel
theorem dX10_init_35 : decode M_X10_init.2.1 35 = .ok (.newarray .int, 2) := by decide +kernel
theorem dX10_init_37 : decode M_X10_init.2.1 37 = .ok (.putfield 19, 3) := by decide +kernel
theorem dX10_init_40 : decode M_X10_init.2.1 40 = .ok (.aload_n 0, 1) := by decide +kernel
theorem dX10_init_41 : decode M_X10_init.2.1 41 = .ok (.sipush 500, 3) := by decide +kernel
theorem dX10_init_44 : decode M_X10_init.2.1 44 = .ok (.newarray .int, 2) := by decide +kernel
theorem dX10_init_46 : decode M_X10_init.2.1 46 = .ok (.putfield 22, 3) := by decide +kernel
theorem dX10_init_49 : decode M_X10_init.2.1 49 = .ok (.aload_n 0, 1) := by decide +kernel
theorem dX10_init_50 : decode M_X10_init.2.1 50 = .ok (.ldc 25, 2) := by decide +kernel
theorem dX10_init_52 : decode M_X10_init.2.1 52 = .ok (.newarray .byte, 2) := by decide +kernel
theorem dX10_init_54 : decode M_X10_init.2.1 54 = .ok (.putfield 26, 3) := by decide +kernel
theorem dX10_init_57 : decode M_X10_init.2.1 57 = .ok (.aload_n 0, 1) := by decide +kernel
theorem dX10_init_58 : decode M_X10_init.2.1 58 = .ok (.ldc 25, 2) := by decide +kernel
theorem dX10_init_60 : decode M_X10_init.2.1 60 = .ok (.newarray .byte, 2) := by decide +kernel
theorem dX10_init_62 : decode M_X10_init.2.1 62 = .ok (.putfield 30, 3) := by decide +kernel
theorem dX10_init_65 : decode M_X10_init.2.1 65 = .ok (.aload_n 0, 1) := by decide +kernel
theorem dX10_init_66 : decode M_X10_init.2.1 66 = .ok (.iconst 2, 1) := by decide +kernel
theorem dX10_init_67 : decode M_X10_init.2.1 67 = .ok (.newarray .int, 2) := by decide +kernel
theorem dX10_init_69 : decode M_X10_init.2.1 69 = .ok (.putfield 33, 3) := by decide +kernel
theorem dX10_init_72 : decode M_X10_init.2.1 72 = .ok (.aload_n 0, 1) := by decide +kernel
theorem dX10_init_73 : decode M_X10_init.2.1 73 = .ok (.iconst 2, 1) := by decide +kernel
theorem dX10_init_74 : decode M_X10_init.2.1 74 = .ok (.newarray .int, 2) := by decide +kernel
theorem dX10_init_76 : decode M_X10_init.2.1 76 = .ok (.putfield 36, 3) := by decide +kernel
theorem dX10_init_79 : decode M_X10_init.2.1 79 = .ok (.aload_n 0, 1) := by decide +kernel
theorem dX10_init_80 : decode M_X10_init.2.1 80 = .ok (.iconst 2, 1) := by decide +kernel
theorem dX10_init_81 : decode M_X10_init.2.1 81 = .ok (.newarray .int, 2) := by decide +kernel
theorem dX10_init_83 : decode M_X10_init.2.1 83 = .ok (.putfield 39, 3) := by decide +kernel
theorem dX10_init_86 : decode M_X10_init.2.1 86 = .ok (.aload_n 0, 1) := by decide +kernel
theorem dX10_init_87 : decode M_X10_init.2.1 87 = .ok (.iconst 1, 1) := by decide +kernel
theorem dX10_init_88 : decode M_X10_init.2.1 88 = .ok (.putfield 42, 3) := by decide +kernel
theorem dX10_init_91 : decode M_X10_init.2.1 91 = .ok (.aload_n 0, 1) := by decide +kernel
theorem dX10_init_92 : decode M_X10_init.2.1 92 = .ok (.bipush 81, 2) := by decide +kernel
theorem dX10_init_94 : decode M_X10_init.2.1 94 = .ok (.newarray .byte, 2) := by decide +kernel
theorem dX10_init_96 : decode M_X10_init.2.1 96 = .ok (.putfield 46, 3) := by decide +kernel
theorem dX10_init_99 : decode M_X10_init.2.1 99 = .ok (.aload_n 0, 1) := by decide +kernel
theorem dX10_init_100 : decode M_X10_init.2.1 100 = .ok (.bipush 81, 2) := by decide +kernel
theorem dX10_init_102 : decode M_X10_init.2.1 102 = .ok (.newarray .boolean, 2) := by decide +kernel
theorem dX10_init_104 : decode M_X10_init.2.1 104 = .ok (.putfield 49, 3) := by decide +kernel
theorem dX10_init_107 : decode M_X10_init.2.1 107 = .ok (.aload_n 0, 1) := by decide +kernel
theorem dX10_init_108 : decode M_X10_init.2.1 108 = .ok (.bipush 81, 2) := by decide +kernel
theorem dX10_init_110 : decode M_X10_init.2.1 110 = .ok (.newarray .boolean, 2) := by decide +kernel
theorem dX10_init_112 : decode M_X10_init.2.1 112 = .ok (.putfield 53, 3) := by decide +kernel
theorem dX10_init_115 : decode M_X10_init.2.1 115 = .ok (.aload_n 0, 1) := by decide +kernel
theorem dX10_init_116 : decode M_X10_init.2.1 116 = .ok (.bipush 81, 2) := by decide +kernel
theorem dX10_init_118 : decode M_X10_init.2.1 118 = .ok (.newarray .int, 2) := by decide +kernel
theorem dX10_init_120 : decode M_X10_init.2.1 120 = .ok (.putfield 56, 3) := by decide +kernel
theorem dX10_init_123 : decode M_X10_init.2.1 123 = .ok (.aload_n 0, 1) := by decide +kernel
theorem dX10_init_124 : decode M_X10_init.2.1 124 = .ok (.sipush 1500, 3) := by decide +kernel
theorem dX10_init_127 : decode M_X10_init.2.1 127 = .ok (.newarray .byte, 2) := by decide +kernel
theorem dX10_init_129 : decode M_X10_init.2.1 129 = .ok (.putfield 59, 3) := by decide +kernel
theorem dX10_init_132 : decode M_X10_init.2.1 132 = .ok (.aload_n 0, 1) := by decide +kernel
theorem dX10_init_133 : decode M_X10_init.2.1 133 = .ok (.iconst (-1), 1) := by decide +kernel
theorem dX10_init_134 : decode M_X10_init.2.1 134 = .ok (.putfield 62, 3) := by decide +kernel
theorem dX10_init_137 : decode M_X10_init.2.1 137 = .ok (.aload_n 0, 1) := by decide +kernel
theorem dX10_init_138 : decode M_X10_init.2.1 138 = .ok (.sipush 1500, 3) := by decide +kernel
theorem dX10_init_141 : decode M_X10_init.2.1 141 = .ok (.newarray .int, 2) := by decide +kernel
theorem dX10_init_143 : decode M_X10_init.2.1 143 = .ok (.putfield 65, 3) := by decide +kernel
theorem dX10_init_146 : decode M_X10_init.2.1 146 = .ok (.aload_n 0, 1) := by decide +kernel
theorem dX10_init_147 : decode M_X10_init.2.1 147 = .ok (.sipush 9000, 3) := by decide +kernel
theorem dX10_init_150 : decode M_X10_init.2.1 150 = .ok (.newarray .byte, 2) := by decide +kernel
theorem dX10_init_152 : decode M_X10_init.2.1 152 = .ok (.putfield 68, 3) := by decide +kernel
theorem dX10_init_155 : decode M_X10_init.2.1 155 = .ok (.aload_n 0, 1) := by decide +kernel
theorem dX10_init_156 : decode M_X10_init.2.1 156 = .ok (.sipush 250, 3) := by decide +kernel
theorem dX10_init_159 : decode M_X10_init.2.1 159 = .ok (.newarray .int, 2) := by decide +kernel
theorem dX10_init_161 : decode M_X10_init.2.1 161 = .ok (.putfield 71, 3) := by decide +kernel
theorem dX10_init_164 : decode M_X10_init.2.1 164 = .ok (.aload_n 0, 1) := by decide +kernel
theorem dX10_init_165 : decode M_X10_init.2.1 165 = .ok (.bipush 81, 2) := by decide +kernel
theorem dX10_init_167 : decode M_X10_init.2.1 167 = .ok (.newarray .boolean, 2) := by decide +kernel
theorem dX10_init_169 : decode M_X10_init.2.1 169 = .ok (.putfield 74, 3) := by decide +kernel
theorem dX10_init_172 : decode M_X10_init.2.1 172 = .ok (.aload_n 0, 1) := by decide +kernel
theorem dX10_init_173 : decode M_X10_init.2.1 173 = .ok (.bipush 81, 2) := by decide +kernel
theorem dX10_init_175 : decode M_X10_init.2.1 175 = .ok (.newarray .int, 2) := by decide +kernel
theorem dX10_init_177 : decode M_X10_init.2.1 177 = .ok (.putfield 77, 3) := by decide +kernel
theorem dX10_init_180 : decode M_X10_init.2.1 180 = .ok (.aload_n 0, 1) := by decide +kernel
theorem dX10_init_181 : decode M_X10_init.2.1 181 = .ok (.bipush 81, 2) := by decide +kernel
theorem dX10_init_183 : decode M_X10_init.2.1 183 = .ok (.newarray .int, 2) := by decide +kernel
theorem dX10_init_185 : decode M_X10_init.2.1 185 = .ok (.putfield 80, 3) := by decide +kernel
theorem dX10_init_188 : decode M_X10_init.2.1 188 = .ok (.aload_n 0, 1) := by decide +kernel
theorem dX10_init_189 : decode M_X10_init.2.1 189 = .ok (.bipush 81, 2) := by decide +kernel
theorem dX10_init_191 : decode M_X10_init.2.1 191 = .ok (.newarray .boolean, 2) := by decide +kernel
theorem dX10_init_193 : decode M_X10_init.2.1 193 = .ok (.putfield 83, 3) := by decide +kernel
theorem dX10_init_196 : decode M_X10_init.2.1 196 = .ok (.aload_n 0, 1) := by decide +kernel
theorem dX10_init_197 : decode M_X10_init.2.1 197 = .ok (.bipush 81, 2) := by decide +kernel
theorem dX10_init_199 : decode M_X10_init.2.1 199 = .ok (.newarray .boolean, 2) := by decide +kernel
theorem dX10_init_201 : decode M_X10_init.2.1 201 = .ok (.putfield 86, 3) := by decide +kernel
theorem dX10_init_204 : decode M_X10_init.2.1 204 = .ok (.aload_n 0, 1) := by decide +kernel
theorem dX10_init_205 : decode M_X10_init.2.1 205 = .ok (.ldc 89, 2) := by decide +kernel
theorem dX10_init_207 : decode M_X10_init.2.1 207 = .ok (.newarray .byte, 2) := by decide +kernel
theorem dX10_init_209 : decode M_X10_init.2.1 209 = .ok (.putfield 90, 3) := by decide +kernel
theorem dX10_init_212 : decode M_X10_init.2.1 212 = .ok (.aload_n 0, 1) := by decide +kernel
theorem dX10_init_213 : decode M_X10_init.2.1 213 = .ok (.iconst (-1), 1) := by decide +kernel
theorem dX10_init_214 : decode M_X10_init.2.1 214 = .ok (.putfield 93, 3) := by decide +kernel
theorem dX10_init_217 : decode M_X10_init.2.1 217 = .ok (.aload_n 0, 1) := by decide +kernel
theorem dX10_init_218 : decode M_X10_init.2.1 218 = .ok (.iconst (-1), 1) := by decide +kernel
theorem dX10_init_219 : decode M_X10_init.2.1 219 = .ok (.putfield 96, 3) := by decide +kernel
theorem dX10_init_222 : decode M_X10_init.2.1 222 = .ok (.aload_n 0, 1) := by decide +kernel
theorem dX10_init_223 : decode M_X10_init.2.1 223 = .ok (.bipush 81, 2) := by decide +kernel
theorem dX10_init_225 : decode M_X10_init.2.1 225 = .ok (.newarray .boolean, 2) := by decide +kernel
theorem dX10_init_227 : decode M_X10_init.2.1 227 = .ok (.putfield 99, 3) := by decide +kernel
theorem dX10_init_230 : decode M_X10_init.2.1 230 = .ok (.aload_n 0, 1) := by decide +kernel
theorem dX10_init_231 : decode M_X10_init.2.1 231 = .ok (.bipush 81, 2) := by decide +kernel
theorem dX10_init_233 : decode M_X10_init.2.1 233 = .ok (.newarray .int, 2) := by decide +kernel
theorem dX10_init_235 : decode M_X10_init.2.1 235 = .ok (.putfield 102, 3) := by decide +kernel
theorem dX10_init_238 : decode M_X10_init.2.1 238 = .ok (.aload_n 0, 1) := by decide +kernel
theorem dX10_init_239 : decode M_X10_init.2.1 239 = .ok (.bipush 81, 2) := by decide +kernel
theorem dX10_init_241 : decode M_X10_init.2.1 241 = .ok (.newarray .boolean, 2) := by decide +kernel
theorem dX10_init_243 : decode M_X10_init.2.1 243 = .ok (.putfield 105, 3) := by decide +kernel
theorem dX10_init_246 : decode M_X10_init.2.1 246 = .ok (.aload_n 0, 1) := by decide +kernel
theorem dX10_init_247 : decode M_X10_init.2.1 247 = .ok (.iconst 3, 1) := by decide +kernel
theorem dX10_init_248 : decode M_X10_init.2.1 248 = .ok (.newarray .int, 2) := by decide +kernel
theorem dX10_init_250 : decode M_X10_init.2.1 250 = .ok (.putfield 108, 3) := by decide +kernel
theorem dX10_init_253 : decode M_X10_init.2.1 253 = .ok (.aload_n 0, 1) := by decide +kernel
theorem dX10_init_254 : decode M_X10_init.2.1 254 = .ok (.iconst 3, 1) := by decide +kernel
theorem dX10_init_255 : decode M_X10_init.2.1 255 = .ok (.newarray .int, 2) := by decide +kernel
theorem dX10_init_257 : decode M_X10_init.2.1 257 = .ok (.putfield 111, 3) := by decide +kernel
theorem dX10_init_260 : decode M_X10_init.2.1 260 = .ok (.aload_n 0, 1) := by decide +kernel
theorem dX10_init_261 : decode M_X10_init.2.1 261 = .ok (.iconst 3, 1) := by decide +kernel
theorem dX10_init_262 : decode M_X10_init.2.1 262 = .ok (.newarray .boolean, 2) := by decide +kernel
theorem dX10_init_264 : decode M_X10_init.2.1 264 = .ok (.putfield 114, 3) := by decide +kernel
theorem dX10_init_267 : decode M_X10_init.2.1 267 = .ok (.aload_n 0, 1) := by decide +kernel
theorem dX10_init_268 : decode M_X10_init.2.1 268 = .ok (.iconst 0, 1) := by decide +kernel
theorem dX10_init_269 : decode M_X10_init.2.1 269 = .ok (.bipush 9, 2) := by decide +kernel
theorem dX10_init_271 : decode M_X10_init.2.1 271 = .ok (.iconst 0, 1) := by decide +kernel
theorem dX10_init_272 : decode M_X10_init.2.1 272 = .ok (.invokevirtual 117, 3) := by decide +kernel
theorem dX10_init_275 : decode M_X10_init.2.1 275 = .ok (.aload_n 0, 1) := by decide +kernel
theorem dX10_init_276 : decode M_X10_init.2.1 276 = .ok (.iconst 0, 1) := by decide +kernel
theorem dX10_init_277 : decode M_X10_init.2.1 277 = .ok (.invokevirtual 121, 3) := by decide +kernel
theorem dX10_init_280 : decode M_X10_init.2.1 280 = .ok (.return_, 1) := by decide +kernel
theorem ko_RX7 : Cond.methodLink RX7 3 Lib.objectInit ∈ lw_tbl := tm_1 (List.mem_of_getElem? (i := 33) (by decide +kernel))
theorem koi : Cond.instanceMethod Lib.objectInit ∈ lw_tbl := tm_1 (List.mem_of_getElem? (i := 26) (by decide +kernel))
theorem koc : Cond.code Lib.objectInit ⟨#[0xb1]⟩ 1 none ∈ lw_tbl := tm_1 (List.mem_of_getElem? (i := 27) (by rfl))
theorem kar_int : Cond.arrayClass .int ∈ lw_tbl := tm_1 (List.mem_of_getElem? (i := 105) (by decide +kernel))
theorem kp_RX7_9 : ZFi RX7 9 7 0 := ⟨(RX7, TX7, 17), rfl, by decide, rfl, rfl, tm_1 (List.mem_of_getElem? (i := 34) (by decide +kernel))⟩
theorem kp_RX7_15 : ZFi RX7 15 7 1 := ⟨(RX7, TX7, 17), rfl, by decide, rfl, rfl, tm_1 (List.mem_of_getElem? (i := 36) (by decide +kernel))⟩
theorem kp_RX7_18 : ZFi RX7 18 7 2 := ⟨(RX7, TX7, 17), rfl, by decide, rfl, rfl, tm_1 (List.mem_of_getElem? (i := 38) (by decide +kernel))⟩
theorem kp_RX7_21 : ZFi RX7 21 7 3 := ⟨(RX7, TX7, 17), rfl, by decide, rfl, rfl, tm_1 (List.mem_of_getElem? (i := 39) (by decide +kernel))⟩
theorem kp_RX7_24 : ZFi RX7 24 7 4 := ⟨(RX7, TX7, 17), rfl, by decide, rfl, rfl, tm_1 (List.mem_of_getElem? (i := 41) (by decide +kernel))⟩
theorem kp_RX7_27 : ZFi RX7 27 7 5 := ⟨(RX7, TX7, 17), rfl, by decide, rfl, rfl, tm_1 (List.mem_of_getElem? (i := 43) (by decide +kernel))⟩
theorem kp_RX7_30 : ZFi RX7 30 7 6 := ⟨(RX7, TX7, 17), rfl, by decide, rfl, rfl, tm_1 (List.mem_of_getElem? (i := 44) (by decide +kernel))⟩
theorem kp_RX7_33 : ZFi RX7 33 7 7 := ⟨(RX7, TX7, 17), rfl, by decide, rfl, rfl, tm_1 (List.mem_of_getElem? (i := 46) (by decide +kernel))⟩
theorem kp_RX7_36 : ZFi RX7 36 7 8 := ⟨(RX7, TX7, 17), rfl, by decide, rfl, rfl, tm_1 (List.mem_of_getElem? (i := 48) (by decide +kernel))⟩
theorem kp_RX7_39 : ZFi RX7 39 7 9 := ⟨(RX7, TX7, 17), rfl, by decide, rfl, rfl, tm_1 (List.mem_of_getElem? (i := 50) (by decide +kernel))⟩
theorem kp_RX7_42 : ZFi RX7 42 7 10 := ⟨(RX7, TX7, 17), rfl, by decide, rfl, rfl, tm_1 (List.mem_of_getElem? (i := 51) (by decide +kernel))⟩
theorem kar_long : Cond.arrayClass .long ∈ lw_tbl := tm_1 (List.mem_of_getElem? (i := 106) (by decide +kernel))
theorem kp_RX7_45 : ZFi RX7 45 7 11 := ⟨(RX7, TX7, 17), rfl, by decide, rfl, rfl, tm_1 (List.mem_of_getElem? (i := 52) (by decide +kernel))⟩
theorem kp_RX7_49 : ZFi RX7 49 7 12 := ⟨(RX7, TX7, 17), rfl, by decide, rfl, rfl, tm_1 (List.mem_of_getElem? (i := 55) (by decide +kernel))⟩
theorem ko_RX1 : Cond.methodLink RX1 3 Lib.objectInit ∈ lw_tbl := tm_1 (List.mem_of_getElem? (i := 112) (by decide +kernel))
theorem kar_byte : Cond.arrayClass .byte ∈ lw_tbl := tm_1 (List.mem_of_getElem? (i := 126) (by decide +kernel))
theorem kp_RX1_21 : ZFi RX1 21 1 0 := ⟨(RX1, TX1, 2), rfl, by decide, rfl, rfl, tm_1 (List.mem_of_getElem? (i := 116) (by decide +kernel))⟩
theorem ko_RX0 : Cond.methodLink RX0 3 Lib.objectInit ∈ lw_tbl := tm_1 (List.mem_of_getElem? (i := 132) (by decide +kernel))
theorem kp_RX0_9 : ZFi RX0 9 0 0 := ⟨(RX0, TX0, 13), rfl, by decide, rfl, rfl, tm_1 (List.mem_of_getElem? (i := 133) (by decide +kernel))⟩
theorem kp_RX0_15 : ZFi RX0 15 0 1 := ⟨(RX0, TX0, 13), rfl, by decide, rfl, rfl, tm_1 (List.mem_of_getElem? (i := 134) (by decide +kernel))⟩
theorem kp_RX0_19 : ZFi RX0 19 0 2 := ⟨(RX0, TX0, 13), rfl, by decide, rfl, rfl, tm_1 (List.mem_of_getElem? (i := 135) (by decide +kernel))⟩
theorem kp_RX0_22 : ZFi RX0 22 0 3 := ⟨(RX0, TX0, 13), rfl, by decide, rfl, rfl, tm_1 (List.mem_of_getElem? (i := 138) (by decide +kernel))⟩
theorem kp_RX0_25 : ZFi RX0 25 0 4 := ⟨(RX0, TX0, 13), rfl, by decide, rfl, rfl, tm_1 (List.mem_of_getElem? (i := 139) (by decide +kernel))⟩
theorem kp_RX0_28 : ZFi RX0 28 0 5 := ⟨(RX0, TX0, 13), rfl, by decide, rfl, rfl, tm_1 (List.mem_of_getElem? (i := 140) (by decide +kernel))⟩
theorem kp_RX0_31 : ZFi RX0 31 0 6 := ⟨(RX0, TX0, 13), rfl, by decide, rfl, rfl, tm_1 (List.mem_of_getElem? (i := 142) (by decide +kernel))⟩
theorem ko_RX5 : Cond.methodLink RX5 5 Lib.objectInit ∈ lw_tbl := tm_1 (List.mem_of_getElem? (i := 193) (by decide +kernel))
theorem kp_RX5_11 : ZFi RX5 11 5 2 := ⟨(RX5, TX5, 16), rfl, by decide, rfl, rfl, tm_1 (List.mem_of_getElem? (i := 196) (by decide +kernel))⟩
theorem kp_RX5_15 : ZFi RX5 15 5 3 := ⟨(RX5, TX5, 16), rfl, by decide, rfl, rfl, tm_1 (List.mem_of_getElem? (i := 197) (by decide +kernel))⟩
theorem kp_RX5_53 : ZFi RX5 53 5 0 := ⟨(RX5, TX5, 16), rfl, by decide, rfl, rfl, tm_1 (List.mem_of_getElem? (i := 194) (by decide +kernel))⟩
theorem kp_RX5_57 : ZFi RX5 57 5 1 := ⟨(RX5, TX5, 16), rfl, by decide, rfl, rfl, tm_1 (List.mem_of_getElem? (i := 195) (by decide +kernel))⟩
theorem ko_RX8 : Cond.methodLink RX8 3 Lib.objectInit ∈ lw_tbl := tm_2 (List.mem_of_getElem? (i := 9) (by decide +kernel))
theorem kp_RX8_9 : ZFi RX8 9 8 0 := ⟨(RX8, TX8, 1), rfl, by decide, rfl, rfl, tm_2 (List.mem_of_getElem? (i := 10) (by decide +kernel))⟩
theorem ko_RX4 : Cond.methodLink RX4 3 Lib.objectInit ∈ lw_tbl := tm_2 (List.mem_of_getElem? (i := 19) (by decide +kernel))
theorem kp_RX4_9 : ZFi RX4 9 4 1 := ⟨(RX4, TX4, 10), rfl, by decide, rfl, rfl, tm_2 (List.mem_of_getElem? (i := 21) (by decide +kernel))⟩
theorem kp_RX4_15 : ZFi RX4 15 4 2 := ⟨(RX4, TX4, 10), rfl, by decide, rfl, rfl, tm_2 (List.mem_of_getElem? (i := 22) (by decide +kernel))⟩
theorem kp_RX4_18 : ZFi RX4 18 4 3 := ⟨(RX4, TX4, 10), rfl, by decide, rfl, rfl, tm_2 (List.mem_of_getElem? (i := 23) (by decide +kernel))⟩
theorem kp_RX4_21 : ZFi RX4 21 4 4 := ⟨(RX4, TX4, 10), rfl, by decide, rfl, rfl, tm_2 (List.mem_of_getElem? (i := 24) (by decide +kernel))⟩
theorem kp_RX4_24 : ZFi RX4 24 4 5 := ⟨(RX4, TX4, 10), rfl, by decide, rfl, rfl, tm_2 (List.mem_of_getElem? (i := 25) (by decide +kernel))⟩
theorem kp_RX4_27 : ZFi RX4 27 4 6 := ⟨(RX4, TX4, 10), rfl, by decide, rfl, rfl, tm_2 (List.mem_of_getElem? (i := 26) (by decide +kernel))⟩
theorem kp_RX4_31 : ZFi RX4 31 4 7 := ⟨(RX4, TX4, 10), rfl, by decide, rfl, rfl, tm_2 (List.mem_of_getElem? (i := 27) (by decide +kernel))⟩
theorem kp_RX4_41 : ZFi RX4 41 4 0 := ⟨(RX4, TX4, 10), rfl, by decide, rfl, rfl, tm_2 (List.mem_of_getElem? (i := 20) (by decide +kernel))⟩
theorem ko_RX3 : Cond.methodLink RX3 5 Lib.objectInit ∈ lw_tbl := tm_2 (List.mem_of_getElem? (i := 56) (by decide +kernel))
theorem kp_RX3_11 : ZFi RX3 11 3 1 := ⟨(RX3, TX3, 11), rfl, by decide, rfl, rfl, tm_2 (List.mem_of_getElem? (i := 58) (by decide +kernel))⟩
theorem kp_RX3_15 : ZFi RX3 15 3 2 := ⟨(RX3, TX3, 11), rfl, by decide, rfl, rfl, tm_2 (List.mem_of_getElem? (i := 59) (by decide +kernel))⟩
theorem kp_RX3_18 : ZFi RX3 18 3 3 := ⟨(RX3, TX3, 11), rfl, by decide, rfl, rfl, tm_2 (List.mem_of_getElem? (i := 60) (by decide +kernel))⟩
theorem kp_RX3_21 : ZFi RX3 21 3 4 := ⟨(RX3, TX3, 11), rfl, by decide, rfl, rfl, tm_2 (List.mem_of_getElem? (i := 61) (by decide +kernel))⟩
theorem kp_RX3_25 : ZFi RX3 25 3 5 := ⟨(RX3, TX3, 11), rfl, by decide, rfl, rfl, tm_2 (List.mem_of_getElem? (i := 62) (by decide +kernel))⟩
theorem kp_RX3_44 : ZFi RX3 44 3 0 := ⟨(RX3, TX3, 11), rfl, by decide, rfl, rfl, tm_2 (List.mem_of_getElem? (i := 57) (by decide +kernel))⟩
theorem ko_RX6 : Cond.methodLink RX6 3 Lib.objectInit ∈ lw_tbl := tm_2 (List.mem_of_getElem? (i := 98) (by decide +kernel))
theorem kar_boolean : Cond.arrayClass .boolean ∈ lw_tbl := tm_2 (List.mem_of_getElem? (i := 115) (by decide +kernel))
theorem kp_RX6_9 : ZFi RX6 9 6 2 := ⟨(RX6, TX6, 5), rfl, by decide, rfl, rfl, tm_2 (List.mem_of_getElem? (i := 101) (by decide +kernel))⟩
theorem kp_RX6_15 : ZFi RX6 15 6 3 := ⟨(RX6, TX6, 5), rfl, by decide, rfl, rfl, tm_2 (List.mem_of_getElem? (i := 102) (by decide +kernel))⟩
theorem kp_RX6_19 : ZFi RX6 19 6 4 := ⟨(RX6, TX6, 5), rfl, by decide, rfl, rfl, tm_2 (List.mem_of_getElem? (i := 103) (by decide +kernel))⟩
theorem kp_RX6_22 : ZFi RX6 22 6 0 := ⟨(RX6, TX6, 5), rfl, by decide, rfl, rfl, tm_2 (List.mem_of_getElem? (i := 99) (by decide +kernel))⟩
theorem kp_RX6_26 : ZFi RX6 26 6 1 := ⟨(RX6, TX6, 5), rfl, by decide, rfl, rfl, tm_2 (List.mem_of_getElem? (i := 100) (by decide +kernel))⟩
theorem ko_RX2 : Cond.methodLink RX2 3 Lib.objectInit ∈ lw_tbl := tm_2 (List.mem_of_getElem? (i := 121) (by decide +kernel))
theorem ko_RX9 : Cond.methodLink RX9 1 Lib.objectInit ∈ lw_tbl := tm_1 (List.mem_of_getElem? (i := 25) (by decide +kernel))
theorem kn_RX9_7 : Cond.classLink RX9 7 RX7 ∈ lw_tbl := tm_1 (List.mem_of_getElem? (i := 28) (by decide +kernel))
theorem kin_7 : Cond.instantiable RX7 17 ∈ lw_tbl := tm_1 (List.mem_of_getElem? (i := 29) (by decide +kernel))
theorem kii_7 : Cond.initialized RX7 ∈ lw_tbl := tm_1 (List.mem_of_getElem? (i := 2) (by decide +kernel))
theorem kn_RX9_19 : Cond.classLink RX9 19 RX1 ∈ lw_tbl := tm_1 (List.mem_of_getElem? (i := 107) (by decide +kernel))
theorem kin_1 : Cond.instantiable RX1 2 ∈ lw_tbl := tm_1 (List.mem_of_getElem? (i := 108) (by decide +kernel))
theorem kii_1 : Cond.initialized RX1 ∈ lw_tbl := tm_1 (List.mem_of_getElem? (i := 3) (by decide +kernel))
theorem kp_RX9_24 : ZFi RX9 24 9 2 := ⟨(RX9, TX9, 14), rfl, by decide, rfl, rfl, tm_2 (List.mem_of_getElem? (i := 192) (by decide +kernel))⟩
theorem kp_RX9_28 : ZFi RX9 28 9 3 := ⟨(RX9, TX9, 14), rfl, by decide, rfl, rfl, tm_2 (List.mem_of_getElem? (i := 193) (by decide +kernel))⟩
theorem kn_RX9_31 : Cond.classLink RX9 31 RX0 ∈ lw_tbl := tm_1 (List.mem_of_getElem? (i := 127) (by decide +kernel))
theorem kin_0 : Cond.instantiable RX0 13 ∈ lw_tbl := tm_1 (List.mem_of_getElem? (i := 128) (by decide +kernel))
theorem kii_0 : Cond.initialized RX0 ∈ lw_tbl := tm_1 (List.mem_of_getElem? (i := 5) (by decide +kernel))
theorem kp_RX9_34 : ZFi RX9 34 9 4 := ⟨(RX9, TX9, 14), rfl, by decide, rfl, rfl, tm_2 (List.mem_of_getElem? (i := 194) (by decide +kernel))⟩
theorem kp_RX9_38 : ZFi RX9 38 9 5 := ⟨(RX9, TX9, 14), rfl, by decide, rfl, rfl, tm_2 (List.mem_of_getElem? (i := 195) (by decide +kernel))⟩
theorem kn_RX9_41 : Cond.classLink RX9 41 RX5 ∈ lw_tbl := tm_1 (List.mem_of_getElem? (i := 188) (by decide +kernel))
theorem kin_5 : Cond.instantiable RX5 16 ∈ lw_tbl := tm_1 (List.mem_of_getElem? (i := 189) (by decide +kernel))
theorem kii_5 : Cond.initialized RX5 ∈ lw_tbl := tm_1 (List.mem_of_getElem? (i := 6) (by decide +kernel))
theorem kp_RX9_46 : ZFi RX9 46 9 6 := ⟨(RX9, TX9, 14), rfl, by decide, rfl, rfl, tm_2 (List.mem_of_getElem? (i := 196) (by decide +kernel))⟩
theorem kn_RX9_50 : Cond.classLink RX9 50 RX8 ∈ lw_tbl := tm_2 (List.mem_of_getElem? (i := 4) (by decide +kernel))
theorem kin_8 : Cond.instantiable RX8 1 ∈ lw_tbl := tm_2 (List.mem_of_getElem? (i := 5) (by decide +kernel))
theorem kii_8 : Cond.initialized RX8 ∈ lw_tbl := tm_1 (List.mem_of_getElem? (i := 7) (by decide +kernel))
theorem kp_RX9_55 : ZFi RX9 55 9 7 := ⟨(RX9, TX9, 14), rfl, by decide, rfl, rfl, tm_2 (List.mem_of_getElem? (i := 197) (by decide +kernel))⟩
theorem kn_RX9_59 : Cond.classLink RX9 59 RX4 ∈ lw_tbl := tm_2 (List.mem_of_getElem? (i := 14) (by decide +kernel))
theorem kin_4 : Cond.instantiable RX4 10 ∈ lw_tbl := tm_2 (List.mem_of_getElem? (i := 15) (by decide +kernel))
theorem kii_4 : Cond.initialized RX4 ∈ lw_tbl := tm_1 (List.mem_of_getElem? (i := 8) (by decide +kernel))
theorem kp_RX9_64 : ZFi RX9 64 9 8 := ⟨(RX9, TX9, 14), rfl, by decide, rfl, rfl, tm_2 (List.mem_of_getElem? (i := 198) (by decide +kernel))⟩
theorem kn_RX9_68 : Cond.classLink RX9 68 RX3 ∈ lw_tbl := tm_2 (List.mem_of_getElem? (i := 51) (by decide +kernel))
theorem kin_3 : Cond.instantiable RX3 11 ∈ lw_tbl := tm_2 (List.mem_of_getElem? (i := 52) (by decide +kernel))
theorem kii_3 : Cond.initialized RX3 ∈ lw_tbl := tm_1 (List.mem_of_getElem? (i := 9) (by decide +kernel))
theorem kp_RX9_71 : ZFi RX9 71 9 9 := ⟨(RX9, TX9, 14), rfl, by decide, rfl, rfl, tm_2 (List.mem_of_getElem? (i := 199) (by decide +kernel))⟩
theorem kn_RX9_75 : Cond.classLink RX9 75 RX6 ∈ lw_tbl := tm_2 (List.mem_of_getElem? (i := 93) (by decide +kernel))
theorem kin_6 : Cond.instantiable RX6 5 ∈ lw_tbl := tm_2 (List.mem_of_getElem? (i := 94) (by decide +kernel))
theorem kii_6 : Cond.initialized RX6 ∈ lw_tbl := tm_1 (List.mem_of_getElem? (i := 10) (by decide +kernel))
theorem kp_RX9_80 : ZFi RX9 80 9 10 := ⟨(RX9, TX9, 14), rfl, by decide, rfl, rfl, tm_2 (List.mem_of_getElem? (i := 200) (by decide +kernel))⟩
theorem kn_RX9_84 : Cond.classLink RX9 84 RX2 ∈ lw_tbl := tm_2 (List.mem_of_getElem? (i := 116) (by decide +kernel))
theorem kin_2 : Cond.instantiable RX2 4 ∈ lw_tbl := tm_2 (List.mem_of_getElem? (i := 117) (by decide +kernel))
theorem kii_2 : Cond.initialized RX2 ∈ lw_tbl := tm_1 (List.mem_of_getElem? (i := 11) (by decide +kernel))
theorem kp_RX9_87 : ZFi RX9 87 9 11 := ⟨(RX9, TX9, 14), rfl, by decide, rfl, rfl, tm_2 (List.mem_of_getElem? (i := 201) (by decide +kernel))⟩
theorem kp_RX9_91 : ZFi RX9 91 9 12 := ⟨(RX9, TX9, 14), rfl, by decide, rfl, rfl, tm_2 (List.mem_of_getElem? (i := 202) (by decide +kernel))⟩
theorem ko_RX10 : Cond.methodLink RX10 1 Lib.objectInit ∈ lw_tbl := tm_5 (List.mem_of_getElem? (i := 174) (by decide +kernel))
theorem kp_RX10_7 : ZFi RX10 7 10 0 := ⟨(RX10, TX10, 52), rfl, by decide, rfl, rfl, tm_5 (List.mem_of_getElem? (i := 201) (by decide +kernel))⟩
theorem kp_RX10_13 : ZFi RX10 13 10 1 := ⟨(RX10, TX10, 52), rfl, by decide, rfl, rfl, tm_5 (List.mem_of_getElem? (i := 202) (by decide +kernel))⟩
theorem kp_RX10_16 : ZFi RX10 16 10 2 := ⟨(RX10, TX10, 52), rfl, by decide, rfl, rfl, tm_5 (List.mem_of_getElem? (i := 203) (by decide +kernel))⟩
theorem kp_RX10_19 : ZFi RX10 19 10 3 := ⟨(RX10, TX10, 52), rfl, by decide, rfl, rfl, tm_5 (List.mem_of_getElem? (i := 204) (by decide +kernel))⟩
theorem kp_RX10_22 : ZFi RX10 22 10 4 := ⟨(RX10, TX10, 52), rfl, by decide, rfl, rfl, tm_5 (List.mem_of_getElem? (i := 205) (by decide +kernel))⟩
theorem kp_RX10_26 : ZFi RX10 26 10 5 := ⟨(RX10, TX10, 52), rfl, by decide, rfl, rfl, tm_5 (List.mem_of_getElem? (i := 206) (by decide +kernel))⟩
theorem kp_RX10_30 : ZFi RX10 30 10 6 := ⟨(RX10, TX10, 52), rfl, by decide, rfl, rfl, tm_5 (List.mem_of_getElem? (i := 207) (by decide +kernel))⟩
theorem kp_RX10_33 : ZFi RX10 33 10 7 := ⟨(RX10, TX10, 52), rfl, by decide, rfl, rfl, tm_5 (List.mem_of_getElem? (i := 208) (by decide +kernel))⟩
theorem kp_RX10_36 : ZFi RX10 36 10 8 := ⟨(RX10, TX10, 52), rfl, by decide, rfl, rfl, tm_5 (List.mem_of_getElem? (i := 209) (by decide +kernel))⟩
theorem kp_RX10_39 : ZFi RX10 39 10 9 := ⟨(RX10, TX10, 52), rfl, by decide, rfl, rfl, tm_5 (List.mem_of_getElem? (i := 210) (by decide +kernel))⟩
theorem kp_RX10_46 : ZFi RX10 46 10 14 := ⟨(RX10, TX10, 52), rfl, by decide, rfl, rfl, tm_5 (List.mem_of_getElem? (i := 215) (by decide +kernel))⟩
theorem kp_RX10_49 : ZFi RX10 49 10 15 := ⟨(RX10, TX10, 52), rfl, by decide, rfl, rfl, tm_5 (List.mem_of_getElem? (i := 216) (by decide +kernel))⟩
theorem kp_RX10_53 : ZFi RX10 53 10 16 := ⟨(RX10, TX10, 52), rfl, by decide, rfl, rfl, tm_5 (List.mem_of_getElem? (i := 217) (by decide +kernel))⟩
theorem kp_RX10_56 : ZFi RX10 56 10 17 := ⟨(RX10, TX10, 52), rfl, by decide, rfl, rfl, tm_5 (List.mem_of_getElem? (i := 218) (by decide +kernel))⟩
theorem kp_RX10_59 : ZFi RX10 59 10 19 := ⟨(RX10, TX10, 52), rfl, by decide, rfl, rfl, tm_5 (List.mem_of_getElem? (i := 220) (by decide +kernel))⟩
theorem kp_RX10_65 : ZFi RX10 65 10 25 := ⟨(RX10, TX10, 52), rfl, by decide, rfl, rfl, tm_5 (List.mem_of_getElem? (i := 226) (by decide +kernel))⟩
theorem kp_RX10_68 : ZFi RX10 68 10 30 := ⟨(RX10, TX10, 52), rfl, by decide, rfl, rfl, tm_5 (List.mem_of_getElem? (i := 231) (by decide +kernel))⟩
theorem kp_RX10_71 : ZFi RX10 71 10 32 := ⟨(RX10, TX10, 52), rfl, by decide, rfl, rfl, tm_5 (List.mem_of_getElem? (i := 233) (by decide +kernel))⟩
theorem kp_RX10_74 : ZFi RX10 74 10 33 := ⟨(RX10, TX10, 52), rfl, by decide, rfl, rfl, tm_5 (List.mem_of_getElem? (i := 234) (by decide +kernel))⟩
theorem kp_RX10_77 : ZFi RX10 77 10 34 := ⟨(RX10, TX10, 52), rfl, by decide, rfl, rfl, tm_5 (List.mem_of_getElem? (i := 235) (by decide +kernel))⟩
theorem kp_RX10_80 : ZFi RX10 80 10 35 := ⟨(RX10, TX10, 52), rfl, by decide, rfl, rfl, tm_5 (List.mem_of_getElem? (i := 236) (by decide +kernel))⟩
theorem kp_RX10_83 : ZFi RX10 83 10 36 := ⟨(RX10, TX10, 52), rfl, by decide, rfl, rfl, tm_5 (List.mem_of_getElem? (i := 237) (by decide +kernel))⟩
theorem kp_RX10_86 : ZFi RX10 86 10 37 := ⟨(RX10, TX10, 52), rfl, by decide, rfl, rfl, tm_5 (List.mem_of_getElem? (i := 238) (by decide +kernel))⟩
theorem kp_RX10_90 : ZFi RX10 90 10 38 := ⟨(RX10, TX10, 52), rfl, by decide, rfl, rfl, tm_5 (List.mem_of_getElem? (i := 239) (by decide +kernel))⟩
theorem kp_RX10_99 : ZFi RX10 99 10 45 := ⟨(RX10, TX10, 52), rfl, by decide, rfl, rfl, tm_6 (List.mem_of_getElem? (i := 6) (by decide +kernel))⟩
theorem kp_RX10_102 : ZFi RX10 102 10 46 := ⟨(RX10, TX10, 52), rfl, by decide, rfl, rfl, tm_6 (List.mem_of_getElem? (i := 7) (by decide +kernel))⟩
theorem kp_RX10_105 : ZFi RX10 105 10 47 := ⟨(RX10, TX10, 52), rfl, by decide, rfl, rfl, tm_6 (List.mem_of_getElem? (i := 8) (by decide +kernel))⟩
theorem kp_RX10_108 : ZFi RX10 108 10 48 := ⟨(RX10, TX10, 52), rfl, by decide, rfl, rfl, tm_6 (List.mem_of_getElem? (i := 9) (by decide +kernel))⟩
theorem kp_RX10_111 : ZFi RX10 111 10 49 := ⟨(RX10, TX10, 52), rfl, by decide, rfl, rfl, tm_6 (List.mem_of_getElem? (i := 10) (by decide +kernel))⟩
theorem kp_RX10_114 : ZFi RX10 114 10 50 := ⟨(RX10, TX10, 52), rfl, by decide, rfl, rfl, tm_6 (List.mem_of_getElem? (i := 11) (by decide +kernel))⟩
def U_7_1 (σ : ZSto) : ZSto := (sI (sI (sI (sI (sP (sP (sP (sP (sP (sP (sP (sP (sP (sP (sP (sP (sP σ 1 0 (some 2)) 1 1 (some 3)) 1 2 (some 4)) 1 3 (some 5)) 1 4 (some 6)) 1 5 (some 7)) 1 6 (some 8)) 1 7 (some 9)) 1 8 (some 10)) 1 9 (some 11)) 1 10 (some 12)) 1 11 (some 13)) 1 12 (some 14)) 1 13 9) 1 14 0) 1 15 0) 1 16 0)
theorem ub_7_1 {σ : ZSto} (b0 : Blk 2 σ) : Blk 15 (U_7_1 σ) := by
  have b1 := b0.mono (n' := 15) (by decide)
  unfold U_7_1
  refine Blk.sI ?_ (by decide)
  refine Blk.sI ?_ (by decide)
  refine Blk.sI ?_ (by decide)
  refine Blk.sI ?_ (by decide)
  refine Blk.sP ?_ (by decide)
  refine Blk.sP ?_ (by decide)
  refine Blk.sP ?_ (by decide)
  refine Blk.sP ?_ (by decide)
  refine Blk.sP ?_ (by decide)
  refine Blk.sP ?_ (by decide)
  refine Blk.sP ?_ (by decide)
  refine Blk.sP ?_ (by decide)
  refine Blk.sP ?_ (by decide)
  refine Blk.sP ?_ (by decide)
  refine Blk.sP ?_ (by decide)
  refine Blk.sP ?_ (by decide)
  refine Blk.sP ?_ (by decide)
  exact b1
theorem u_7_1 {X : ZX} {d : Nat} {σ : ZSto} (b0 : Blk 2 σ) : Zc X M_X7_init (d + 1) 2 15 [.ref (zB X + 1)] σ (fun r σ' => r = none ∧ σ' = U_7_1 σ) := by
  refine zc_of (ls := [some (.ref (zB X + 1))]) pl_RX7 (Nat.le_of_ble_eq_true rfl) rfl ?_
  refine r_aload_n dX7_init_0 rfl ?_
  refine r_objInit (d := d) dX7_init_1 ko_RX7 koi koc (zFits_rm d 2 15 2 (by decide)) (Nat.le_of_ble_eq_true rfl) ?_
  refine r_aload_n dX7_init_4 rfl ?_
  refine r_sipush dX7_init_5 rfl ?_
  refine r_newA (d := d) (len := 250) (ty := .int) dX7_init_8 rfl (Or.inl rfl) kar_int sh_2 rfl b0 (zFits_rm d 2 15 3 (by decide)) ?_
  have b1 := b0.mono (n' := 3) (by decide)
  refine r_putFP dX7_init_10 kp_RX7_9 (by decide) sh_1 rfl rfl ?_
  have b2 := b1.sP (a := 1) (i := 0) (x := some 2) (by decide)
  refine r_aload_n dX7_init_13 rfl ?_
  refine r_sipush dX7_init_14 rfl ?_
  refine r_newA (d := d) (len := 250) (ty := .int) dX7_init_17 rfl (Or.inl rfl) kar_int sh_3 rfl b2 (zFits_rm d 2 15 4 (by decide)) ?_
  have b3 := b2.mono (n' := 4) (by decide)
  refine r_putFP dX7_init_19 kp_RX7_15 (by decide) sh_1 rfl rfl ?_
  have b4 := b3.sP (a := 1) (i := 1) (x := some 3) (by decide)
  refine r_aload_n dX7_init_22 rfl ?_
  refine r_sipush dX7_init_23 rfl ?_
  refine r_newA (d := d) (len := 250) (ty := .int) dX7_init_26 rfl (Or.inl rfl) kar_int sh_4 rfl b4 (zFits_rm d 2 15 5 (by decide)) ?_
  have b5 := b4.mono (n' := 5) (by decide)
  refine r_putFP dX7_init_28 kp_RX7_18 (by decide) sh_1 rfl rfl ?_
  have b6 := b5.sP (a := 1) (i := 2) (x := some 4) (by decide)
  refine r_aload_n dX7_init_31 rfl ?_
  refine r_sipush dX7_init_32 rfl ?_
  refine r_newA (d := d) (len := 250) (ty := .int) dX7_init_35 rfl (Or.inl rfl) kar_int sh_5 rfl b6 (zFits_rm d 2 15 6 (by decide)) ?_
  have b7 := b6.mono (n' := 6) (by decide)
  refine r_putFP dX7_init_37 kp_RX7_21 (by decide) sh_1 rfl rfl ?_
  have b8 := b7.sP (a := 1) (i := 3) (x := some 5) (by decide)
  refine r_aload_n dX7_init_40 rfl ?_
  refine r_sipush dX7_init_41 rfl ?_
  refine r_newA (d := d) (len := 250) (ty := .int) dX7_init_44 rfl (Or.inl rfl) kar_int sh_6 rfl b8 (zFits_rm d 2 15 7 (by decide)) ?_
  have b9 := b8.mono (n' := 7) (by decide)
  refine r_putFP dX7_init_46 kp_RX7_24 (by decide) sh_1 rfl rfl ?_
  have b10 := b9.sP (a := 1) (i := 4) (x := some 6) (by decide)
  refine r_aload_n dX7_init_49 rfl ?_
  refine r_sipush dX7_init_50 rfl ?_
  refine r_newA (d := d) (len := 250) (ty := .int) dX7_init_53 rfl (Or.inl rfl) kar_int sh_7 rfl b10 (zFits_rm d 2 15 8 (by decide)) ?_
  have b11 := b10.mono (n' := 8) (by decide)
  refine r_putFP dX7_init_55 kp_RX7_27 (by decide) sh_1 rfl rfl ?_
  have b12 := b11.sP (a := 1) (i := 5) (x := some 7) (by decide)
  refine r_aload_n dX7_init_58 rfl ?_
  refine r_sipush dX7_init_59 rfl ?_
  refine r_newA (d := d) (len := 250) (ty := .int) dX7_init_62 rfl (Or.inl rfl) kar_int sh_8 rfl b12 (zFits_rm d 2 15 9 (by decide)) ?_
  have b13 := b12.mono (n' := 9) (by decide)
  refine r_putFP dX7_init_64 kp_RX7_30 (by decide) sh_1 rfl rfl ?_
  have b14 := b13.sP (a := 1) (i := 6) (x := some 8) (by decide)
  refine r_aload_n dX7_init_67 rfl ?_
  refine r_sipush dX7_init_68 rfl ?_
  refine r_newA (d := d) (len := 250) (ty := .int) dX7_init_71 rfl (Or.inl rfl) kar_int sh_9 rfl b14 (zFits_rm d 2 15 10 (by decide)) ?_
  have b15 := b14.mono (n' := 10) (by decide)
  refine r_putFP dX7_init_73 kp_RX7_33 (by decide) sh_1 rfl rfl ?_
  have b16 := b15.sP (a := 1) (i := 7) (x := some 9) (by decide)
  refine r_aload_n dX7_init_76 rfl ?_
  refine r_sipush dX7_init_77 rfl ?_
  refine r_newA (d := d) (len := 250) (ty := .int) dX7_init_80 rfl (Or.inl rfl) kar_int sh_10 rfl b16 (zFits_rm d 2 15 11 (by decide)) ?_
  have b17 := b16.mono (n' := 11) (by decide)
  refine r_putFP dX7_init_82 kp_RX7_36 (by decide) sh_1 rfl rfl ?_
  have b18 := b17.sP (a := 1) (i := 8) (x := some 10) (by decide)
  refine r_aload_n dX7_init_85 rfl ?_
  refine r_sipush dX7_init_86 rfl ?_
  refine r_newA (d := d) (len := 250) (ty := .int) dX7_init_89 rfl (Or.inl rfl) kar_int sh_11 rfl b18 (zFits_rm d 2 15 12 (by decide)) ?_
  have b19 := b18.mono (n' := 12) (by decide)
  refine r_putFP dX7_init_91 kp_RX7_39 (by decide) sh_1 rfl rfl ?_
  have b20 := b19.sP (a := 1) (i := 9) (x := some 11) (by decide)
  refine r_aload_n dX7_init_94 rfl ?_
  refine r_sipush dX7_init_95 rfl ?_
  refine r_newA (d := d) (len := 250) (ty := .int) dX7_init_98 rfl (Or.inl rfl) kar_int sh_12 rfl b20 (zFits_rm d 2 15 13 (by decide)) ?_
  have b21 := b20.mono (n' := 13) (by decide)
  refine r_putFP dX7_init_100 kp_RX7_42 (by decide) sh_1 rfl rfl ?_
  have b22 := b21.sP (a := 1) (i := 10) (x := some 12) (by decide)
  refine r_aload_n dX7_init_103 rfl ?_
  refine r_sipush dX7_init_104 rfl ?_
  refine r_newA (d := d) (len := 750) (ty := .long) dX7_init_107 rfl (Or.inr (Or.inr (Or.inr rfl))) kar_long sh_13 rfl b22 (zFits_rm d 2 15 14 (by decide)) ?_
  have b23 := b22.mono (n' := 14) (by decide)
  refine r_putFP dX7_init_109 kp_RX7_45 (by decide) sh_1 rfl rfl ?_
  have b24 := b23.sP (a := 1) (i := 11) (x := some 13) (by decide)
  refine r_aload_n dX7_init_112 rfl ?_
  refine r_sipush dX7_init_113 rfl ?_
  refine r_newA (d := d) (len := 750) (ty := .long) dX7_init_116 rfl (Or.inr (Or.inr (Or.inr rfl))) kar_long sh_14 rfl b24 (zFits_rm d 2 15 15 (by decide)) ?_
  have b25 := b24.mono (n' := 15) (by decide)
  refine r_putFP dX7_init_118 kp_RX7_49 (by decide) sh_1 rfl rfl ?_
  have b26 := b25.sP (a := 1) (i := 12) (x := some 14) (by decide)
  refine r_aload_n dX7_init_121 rfl ?_
  refine r_bipush dX7_init_122 rfl ?_
  refine r_putI dX7_init_124 kf_RX7_52 (by decide) sh_1 rfl (Or.inl rfl) ?_
  have b27 := b26.sI (a := 1) (i := 13) (x := 9) (by decide)
  refine r_aload_n dX7_init_127 rfl ?_
  refine r_iconst dX7_init_128 ?_
  refine r_putI dX7_init_129 kf_RX7_56 (by decide) sh_1 rfl (Or.inl rfl) ?_
  have b28 := b27.sI (a := 1) (i := 14) (x := 0) (by decide)
  refine r_aload_n dX7_init_132 rfl ?_
  refine r_iconst dX7_init_133 ?_
  refine r_putI dX7_init_134 kf_RX7_59 (by decide) sh_1 rfl (Or.inl rfl) ?_
  have b29 := b28.sI (a := 1) (i := 15) (x := 0) (by decide)
  refine r_aload_n dX7_init_137 rfl ?_
  refine r_iconst dX7_init_138 ?_
  refine r_putI dX7_init_139 kf_RX7_62 (by decide) sh_1 rfl (Or.inl rfl) ?_
  have b30 := b29.sI (a := 1) (i := 16) (x := 0) (by decide)
  exact r_return dX7_init_142 rfl ⟨rfl, rfl⟩
def U_7_15 (σ : ZSto) : ZSto := (sI (sI (sI (sI (sP (sP (sP (sP (sP (sP (sP (sP (sP (sP (sP (sP (sP σ 15 0 (some 16)) 15 1 (some 17)) 15 2 (some 18)) 15 3 (some 19)) 15 4 (some 20)) 15 5 (some 21)) 15 6 (some 22)) 15 7 (some 23)) 15 8 (some 24)) 15 9 (some 25)) 15 10 (some 26)) 15 11 (some 27)) 15 12 (some 28)) 15 13 9) 15 14 0) 15 15 0) 15 16 0)
theorem ub_7_15 {σ : ZSto} (b0 : Blk 16 σ) : Blk 29 (U_7_15 σ) := by
  have b1 := b0.mono (n' := 29) (by decide)
  unfold U_7_15
  refine Blk.sI ?_ (by decide)
  refine Blk.sI ?_ (by decide)
  refine Blk.sI ?_ (by decide)
  refine Blk.sI ?_ (by decide)
  refine Blk.sP ?_ (by decide)
  refine Blk.sP ?_ (by decide)
  refine Blk.sP ?_ (by decide)
  refine Blk.sP ?_ (by decide)
  refine Blk.sP ?_ (by decide)
  refine Blk.sP ?_ (by decide)
  refine Blk.sP ?_ (by decide)
  refine Blk.sP ?_ (by decide)
  refine Blk.sP ?_ (by decide)
  refine Blk.sP ?_ (by decide)
  refine Blk.sP ?_ (by decide)
  refine Blk.sP ?_ (by decide)
  refine Blk.sP ?_ (by decide)
  exact b1
theorem u_7_15 {X : ZX} {d : Nat} {σ : ZSto} (b0 : Blk 16 σ) : Zc X M_X7_init (d + 1) 16 29 [.ref (zB X + 15)] σ (fun r σ' => r = none ∧ σ' = U_7_15 σ) := by
  refine zc_of (ls := [some (.ref (zB X + 15))]) pl_RX7 (Nat.le_of_ble_eq_true rfl) rfl ?_
  refine r_aload_n dX7_init_0 rfl ?_
  refine r_objInit (d := d) dX7_init_1 ko_RX7 koi koc (zFits_rm d 16 29 16 (by decide)) (Nat.le_of_ble_eq_true rfl) ?_
  refine r_aload_n dX7_init_4 rfl ?_
  refine r_sipush dX7_init_5 rfl ?_
  refine r_newA (d := d) (len := 250) (ty := .int) dX7_init_8 rfl (Or.inl rfl) kar_int sh_16 rfl b0 (zFits_rm d 16 29 17 (by decide)) ?_
  have b1 := b0.mono (n' := 17) (by decide)
  refine r_putFP dX7_init_10 kp_RX7_9 (by decide) sh_15 rfl rfl ?_
  have b2 := b1.sP (a := 15) (i := 0) (x := some 16) (by decide)
  refine r_aload_n dX7_init_13 rfl ?_
  refine r_sipush dX7_init_14 rfl ?_
  refine r_newA (d := d) (len := 250) (ty := .int) dX7_init_17 rfl (Or.inl rfl) kar_int sh_17 rfl b2 (zFits_rm d 16 29 18 (by decide)) ?_
  have b3 := b2.mono (n' := 18) (by decide)
  refine r_putFP dX7_init_19 kp_RX7_15 (by decide) sh_15 rfl rfl ?_
  have b4 := b3.sP (a := 15) (i := 1) (x := some 17) (by decide)
  refine r_aload_n dX7_init_22 rfl ?_
  refine r_sipush dX7_init_23 rfl ?_
  refine r_newA (d := d) (len := 250) (ty := .int) dX7_init_26 rfl (Or.inl rfl) kar_int sh_18 rfl b4 (zFits_rm d 16 29 19 (by decide)) ?_
  have b5 := b4.mono (n' := 19) (by decide)
  refine r_putFP dX7_init_28 kp_RX7_18 (by decide) sh_15 rfl rfl ?_
  have b6 := b5.sP (a := 15) (i := 2) (x := some 18) (by decide)
  refine r_aload_n dX7_init_31 rfl ?_
  refine r_sipush dX7_init_32 rfl ?_
  refine r_newA (d := d) (len := 250) (ty := .int) dX7_init_35 rfl (Or.inl rfl) kar_int sh_19 rfl b6 (zFits_rm d 16 29 20 (by decide)) ?_
  have b7 := b6.mono (n' := 20) (by decide)
  refine r_putFP dX7_init_37 kp_RX7_21 (by decide) sh_15 rfl rfl ?_
  have b8 := b7.sP (a := 15) (i := 3) (x := some 19) (by decide)
  refine r_aload_n dX7_init_40 rfl ?_
  refine r_sipush dX7_init_41 rfl ?_
  refine r_newA (d := d) (len := 250) (ty := .int) dX7_init_44 rfl (Or.inl rfl) kar_int sh_20 rfl b8 (zFits_rm d 16 29 21 (by decide)) ?_
  have b9 := b8.mono (n' := 21) (by decide)
  refine r_putFP dX7_init_46 kp_RX7_24 (by decide) sh_15 rfl rfl ?_
  have b10 := b9.sP (a := 15) (i := 4) (x := some 20) (by decide)
  refine r_aload_n dX7_init_49 rfl ?_
  refine r_sipush dX7_init_50 rfl ?_
  refine r_newA (d := d) (len := 250) (ty := .int) dX7_init_53 rfl (Or.inl rfl) kar_int sh_21 rfl b10 (zFits_rm d 16 29 22 (by decide)) ?_
  have b11 := b10.mono (n' := 22) (by decide)
  refine r_putFP dX7_init_55 kp_RX7_27 (by decide) sh_15 rfl rfl ?_
  have b12 := b11.sP (a := 15) (i := 5) (x := some 21) (by decide)
  refine r_aload_n dX7_init_58 rfl ?_
  refine r_sipush dX7_init_59 rfl ?_
  refine r_newA (d := d) (len := 250) (ty := .int) dX7_init_62 rfl (Or.inl rfl) kar_int sh_22 rfl b12 (zFits_rm d 16 29 23 (by decide)) ?_
  have b13 := b12.mono (n' := 23) (by decide)
  refine r_putFP dX7_init_64 kp_RX7_30 (by decide) sh_15 rfl rfl ?_
  have b14 := b13.sP (a := 15) (i := 6) (x := some 22) (by decide)
  refine r_aload_n dX7_init_67 rfl ?_
  refine r_sipush dX7_init_68 rfl ?_
  refine r_newA (d := d) (len := 250) (ty := .int) dX7_init_71 rfl (Or.inl rfl) kar_int sh_23 rfl b14 (zFits_rm d 16 29 24 (by decide)) ?_
  have b15 := b14.mono (n' := 24) (by decide)
  refine r_putFP dX7_init_73 kp_RX7_33 (by decide) sh_15 rfl rfl ?_
  have b16 := b15.sP (a := 15) (i := 7) (x := some 23) (by decide)
  refine r_aload_n dX7_init_76 rfl ?_
  refine r_sipush dX7_init_77 rfl ?_
  refine r_newA (d := d) (len := 250) (ty := .int) dX7_init_80 rfl (Or.inl rfl) kar_int sh_24 rfl b16 (zFits_rm d 16 29 25 (by decide)) ?_
  have b17 := b16.mono (n' := 25) (by decide)
  refine r_putFP dX7_init_82 kp_RX7_36 (by decide) sh_15 rfl rfl ?_
  have b18 := b17.sP (a := 15) (i := 8) (x := some 24) (by decide)
  refine r_aload_n dX7_init_85 rfl ?_
  refine r_sipush dX7_init_86 rfl ?_
  refine r_newA (d := d) (len := 250) (ty := .int) dX7_init_89 rfl (Or.inl rfl) kar_int sh_25 rfl b18 (zFits_rm d 16 29 26 (by decide)) ?_
  have b19 := b18.mono (n' := 26) (by decide)
  refine r_putFP dX7_init_91 kp_RX7_39 (by decide) sh_15 rfl rfl ?_
  have b20 := b19.sP (a := 15) (i := 9) (x := some 25) (by decide)
  refine r_aload_n dX7_init_94 rfl ?_
  refine r_sipush dX7_init_95 rfl ?_
  refine r_newA (d := d) (len := 250) (ty := .int) dX7_init_98 rfl (Or.inl rfl) kar_int sh_26 rfl b20 (zFits_rm d 16 29 27 (by decide)) ?_
  have b21 := b20.mono (n' := 27) (by decide)
  refine r_putFP dX7_init_100 kp_RX7_42 (by decide) sh_15 rfl rfl ?_
  have b22 := b21.sP (a := 15) (i := 10) (x := some 26) (by decide)
  refine r_aload_n dX7_init_103 rfl ?_
  refine r_sipush dX7_init_104 rfl ?_
  refine r_newA (d := d) (len := 750) (ty := .long) dX7_init_107 rfl (Or.inr (Or.inr (Or.inr rfl))) kar_long sh_27 rfl b22 (zFits_rm d 16 29 28 (by decide)) ?_
  have b23 := b22.mono (n' := 28) (by decide)
  refine r_putFP dX7_init_109 kp_RX7_45 (by decide) sh_15 rfl rfl ?_
  have b24 := b23.sP (a := 15) (i := 11) (x := some 27) (by decide)
  refine r_aload_n dX7_init_112 rfl ?_
  refine r_sipush dX7_init_113 rfl ?_
  refine r_newA (d := d) (len := 750) (ty := .long) dX7_init_116 rfl (Or.inr (Or.inr (Or.inr rfl))) kar_long sh_28 rfl b24 (zFits_rm d 16 29 29 (by decide)) ?_
  have b25 := b24.mono (n' := 29) (by decide)
  refine r_putFP dX7_init_118 kp_RX7_49 (by decide) sh_15 rfl rfl ?_
  have b26 := b25.sP (a := 15) (i := 12) (x := some 28) (by decide)
  refine r_aload_n dX7_init_121 rfl ?_
  refine r_bipush dX7_init_122 rfl ?_
  refine r_putI dX7_init_124 kf_RX7_52 (by decide) sh_15 rfl (Or.inl rfl) ?_
  have b27 := b26.sI (a := 15) (i := 13) (x := 9) (by decide)
  refine r_aload_n dX7_init_127 rfl ?_
  refine r_iconst dX7_init_128 ?_
  refine r_putI dX7_init_129 kf_RX7_56 (by decide) sh_15 rfl (Or.inl rfl) ?_
  have b28 := b27.sI (a := 15) (i := 14) (x := 0) (by decide)
  refine r_aload_n dX7_init_132 rfl ?_
  refine r_iconst dX7_init_133 ?_
  refine r_putI dX7_init_134 kf_RX7_59 (by decide) sh_15 rfl (Or.inl rfl) ?_
  have b29 := b28.sI (a := 15) (i := 15) (x := 0) (by decide)
  refine r_aload_n dX7_init_137 rfl ?_
  refine r_iconst dX7_init_138 ?_
  refine r_putI dX7_init_139 kf_RX7_62 (by decide) sh_15 rfl (Or.inl rfl) ?_
  have b30 := b29.sI (a := 15) (i := 16) (x := 0) (by decide)
  exact r_return dX7_init_142 rfl ⟨rfl, rfl⟩
def U_1_29 (σ : ZSto) : ZSto := (sP (sI σ 29 1 0) 29 0 (some 30))
theorem ub_1_29 {σ : ZSto} (b0 : Blk 30 σ) : Blk 31 (U_1_29 σ) := by
  have b1 := b0.mono (n' := 31) (by decide)
  unfold U_1_29
  refine Blk.sP ?_ (by decide)
  refine Blk.sI ?_ (by decide)
  exact b1
theorem u_1_29 {X : ZX} {d : Nat} {σ : ZSto} (b0 : Blk 30 σ) : Zc X M_X1_init (d + 1) 30 31 [.ref (zB X + 29), iV 1500] σ (fun r σ' => r = none ∧ σ' = U_1_29 σ) := by
  refine zc_of (ls := [some (.ref (zB X + 29)), some (iV 1500)]) pl_RX1 (Nat.le_of_ble_eq_true rfl) rfl ?_
  refine r_aload_n dX1_init_0 rfl ?_
  refine r_objInit (d := d) dX1_init_1 ko_RX1 koi koc (zFits_rm d 30 31 30 (by decide)) (Nat.le_of_ble_eq_true rfl) ?_
  refine r_aload_n dX1_init_4 rfl ?_
  refine r_iconst dX1_init_5 ?_
  refine r_putI dX1_init_6 kf_RX1_9 (by decide) sh_29 rfl (Or.inl rfl) ?_
  have b1 := b0.sI (a := 29) (i := 1) (x := 0) (by decide)
  refine r_aload_n dX1_init_9 rfl ?_
  refine r_iload_n dX1_init_10 rfl ?_
  refine r_iconst dX1_init_11 ?_
  refine r_mmax dX1_init_12 ka_RX1_15 kq_max (r32c rfl) (r32c rfl) (zFits_rm d 30 31 30 (by decide)) (Nat.le_of_ble_eq_true rfl) ?_
  rw [show maxI 1500 0 = 1500 from rfl]
  refine r_newA (d := d) (len := 1500) (ty := .byte) dX1_init_15 rfl (Or.inr (Or.inl rfl)) kar_byte sh_30 rfl b1 (zFits_rm d 30 31 31 (by decide)) ?_
  have b2 := b1.mono (n' := 31) (by decide)
  refine r_putFP dX1_init_17 kp_RX1_21 (by decide) sh_29 rfl rfl ?_
  have b3 := b2.sP (a := 29) (i := 0) (x := some 30) (by decide)
  exact r_return dX1_init_20 rfl ⟨rfl, rfl⟩
def U_1_31 (σ : ZSto) : ZSto := (sP (sI σ 31 1 0) 31 0 (some 32))
theorem ub_1_31 {σ : ZSto} (b0 : Blk 32 σ) : Blk 33 (U_1_31 σ) := by
  have b1 := b0.mono (n' := 33) (by decide)
  unfold U_1_31
  refine Blk.sP ?_ (by decide)
  refine Blk.sI ?_ (by decide)
  exact b1
theorem u_1_31 {X : ZX} {d : Nat} {σ : ZSto} (b0 : Blk 32 σ) : Zc X M_X1_init (d + 1) 32 33 [.ref (zB X + 31), iV 4096] σ (fun r σ' => r = none ∧ σ' = U_1_31 σ) := by
  refine zc_of (ls := [some (.ref (zB X + 31)), some (iV 4096)]) pl_RX1 (Nat.le_of_ble_eq_true rfl) rfl ?_
  refine r_aload_n dX1_init_0 rfl ?_
  refine r_objInit (d := d) dX1_init_1 ko_RX1 koi koc (zFits_rm d 32 33 32 (by decide)) (Nat.le_of_ble_eq_true rfl) ?_
  refine r_aload_n dX1_init_4 rfl ?_
  refine r_iconst dX1_init_5 ?_
  refine r_putI dX1_init_6 kf_RX1_9 (by decide) sh_31 rfl (Or.inl rfl) ?_
  have b1 := b0.sI (a := 31) (i := 1) (x := 0) (by decide)
  refine r_aload_n dX1_init_9 rfl ?_
  refine r_iload_n dX1_init_10 rfl ?_
  refine r_iconst dX1_init_11 ?_
  refine r_mmax dX1_init_12 ka_RX1_15 kq_max (r32c rfl) (r32c rfl) (zFits_rm d 32 33 32 (by decide)) (Nat.le_of_ble_eq_true rfl) ?_
  rw [show maxI 4096 0 = 4096 from rfl]
  refine r_newA (d := d) (len := 4096) (ty := .byte) dX1_init_15 rfl (Or.inr (Or.inl rfl)) kar_byte sh_32 rfl b1 (zFits_rm d 32 33 33 (by decide)) ?_
  have b2 := b1.mono (n' := 33) (by decide)
  refine r_putFP dX1_init_17 kp_RX1_21 (by decide) sh_31 rfl rfl ?_
  have b3 := b2.sP (a := 31) (i := 0) (x := some 32) (by decide)
  exact r_return dX1_init_20 rfl ⟨rfl, rfl⟩
def U_0_33 (σ : ZSto) : ZSto := (sI (sI (sI (sI (sI (sI (sP (sP (sP (sP (sP (sP (sP σ 33 0 (some 34)) 33 1 (some 35)) 33 2 (some 36)) 33 3 (some 37)) 33 4 (some 38)) 33 5 (some 39)) 33 6 (some 40)) 33 7 0) 33 8 0) 33 9 0) 33 10 0) 33 11 (-1)) 33 12 0)
theorem ub_0_33 {σ : ZSto} (b0 : Blk 34 σ) : Blk 41 (U_0_33 σ) := by
  have b1 := b0.mono (n' := 41) (by decide)
  unfold U_0_33
  refine Blk.sI ?_ (by decide)
  refine Blk.sI ?_ (by decide)
  refine Blk.sI ?_ (by decide)
  refine Blk.sI ?_ (by decide)
  refine Blk.sI ?_ (by decide)
  refine Blk.sI ?_ (by decide)
  refine Blk.sP ?_ (by decide)
  refine Blk.sP ?_ (by decide)
  refine Blk.sP ?_ (by decide)
  refine Blk.sP ?_ (by decide)
  refine Blk.sP ?_ (by decide)
  refine Blk.sP ?_ (by decide)
  refine Blk.sP ?_ (by decide)
  exact b1
theorem u_0_33 {X : ZX} {d : Nat} {σ : ZSto} (b0 : Blk 34 σ) : Zc X M_X0_init (d + 1) 34 41 [.ref (zB X + 33)] σ (fun r σ' => r = none ∧ σ' = U_0_33 σ) := by
  refine zc_of (ls := [some (.ref (zB X + 33))]) pl_RX0 (Nat.le_of_ble_eq_true rfl) rfl ?_
  refine r_aload_n dX0_init_0 rfl ?_
  refine r_objInit (d := d) dX0_init_1 ko_RX0 koi koc (zFits_rm d 34 41 34 (by decide)) (Nat.le_of_ble_eq_true rfl) ?_
  refine r_aload_n dX0_init_4 rfl ?_
  refine r_bipush dX0_init_5 rfl ?_
  refine r_newA (d := d) (len := 81) (ty := .byte) dX0_init_7 rfl (Or.inr (Or.inl rfl)) kar_byte sh_34 rfl b0 (zFits_rm d 34 41 35 (by decide)) ?_
  have b1 := b0.mono (n' := 35) (by decide)
  refine r_putFP dX0_init_9 kp_RX0_9 (by decide) sh_33 rfl rfl ?_
  have b2 := b1.sP (a := 33) (i := 0) (x := some 34) (by decide)
  refine r_aload_n dX0_init_12 rfl ?_
  refine r_sipush dX0_init_13 rfl ?_
  refine r_newA (d := d) (len := 324) (ty := .int) dX0_init_16 rfl (Or.inl rfl) kar_int sh_35 rfl b2 (zFits_rm d 34 41 36 (by decide)) ?_
  have b3 := b2.mono (n' := 36) (by decide)
  refine r_putFP dX0_init_18 kp_RX0_15 (by decide) sh_33 rfl rfl ?_
  have b4 := b3.sP (a := 33) (i := 1) (x := some 35) (by decide)
  refine r_aload_n dX0_init_21 rfl ?_
  refine r_bipush dX0_init_22 rfl ?_
  refine r_newA (d := d) (len := 81) (ty := .int) dX0_init_24 rfl (Or.inl rfl) kar_int sh_36 rfl b4 (zFits_rm d 34 41 37 (by decide)) ?_
  have b5 := b4.mono (n' := 37) (by decide)
  refine r_putFP dX0_init_26 kp_RX0_19 (by decide) sh_33 rfl rfl ?_
  have b6 := b5.sP (a := 33) (i := 2) (x := some 36) (by decide)
  refine r_aload_n dX0_init_29 rfl ?_
  refine r_bipush dX0_init_30 rfl ?_
  refine r_newA (d := d) (len := 81) (ty := .int) dX0_init_32 rfl (Or.inl rfl) kar_int sh_37 rfl b6 (zFits_rm d 34 41 38 (by decide)) ?_
  have b7 := b6.mono (n' := 38) (by decide)
  refine r_putFP dX0_init_34 kp_RX0_22 (by decide) sh_33 rfl rfl ?_
  have b8 := b7.sP (a := 33) (i := 3) (x := some 37) (by decide)
  refine r_aload_n dX0_init_37 rfl ?_
  refine r_bipush dX0_init_38 rfl ?_
  refine r_newA (d := d) (len := 81) (ty := .int) dX0_init_40 rfl (Or.inl rfl) kar_int sh_38 rfl b8 (zFits_rm d 34 41 39 (by decide)) ?_
  have b9 := b8.mono (n' := 39) (by decide)
  refine r_putFP dX0_init_42 kp_RX0_25 (by decide) sh_33 rfl rfl ?_
  have b10 := b9.sP (a := 33) (i := 4) (x := some 38) (by decide)
  refine r_aload_n dX0_init_45 rfl ?_
  refine r_iconst dX0_init_46 ?_
  refine r_newA (d := d) (len := 3) (ty := .int) dX0_init_47 rfl (Or.inl rfl) kar_int sh_39 rfl b10 (zFits_rm d 34 41 40 (by decide)) ?_
  have b11 := b10.mono (n' := 40) (by decide)
  refine r_putFP dX0_init_49 kp_RX0_28 (by decide) sh_33 rfl rfl ?_
  have b12 := b11.sP (a := 33) (i := 5) (x := some 39) (by decide)
  refine r_aload_n dX0_init_52 rfl ?_
  refine r_iconst dX0_init_53 ?_
  refine r_newA (d := d) (len := 3) (ty := .long) dX0_init_54 rfl (Or.inr (Or.inr (Or.inr rfl))) kar_long sh_40 rfl b12 (zFits_rm d 34 41 41 (by decide)) ?_
  have b13 := b12.mono (n' := 41) (by decide)
  refine r_putFP dX0_init_56 kp_RX0_31 (by decide) sh_33 rfl rfl ?_
  have b14 := b13.sP (a := 33) (i := 6) (x := some 40) (by decide)
  refine r_aload_n dX0_init_59 rfl ?_
  refine r_iconst dX0_init_60 ?_
  refine r_putI dX0_init_61 kf_RX0_35 (by decide) sh_33 rfl (Or.inl rfl) ?_
  have b15 := b14.sI (a := 33) (i := 7) (x := 0) (by decide)
  refine r_aload_n dX0_init_64 rfl ?_
  refine r_iconst dX0_init_65 ?_
  refine r_putI dX0_init_66 kf_RX0_39 (by decide) sh_33 rfl (Or.inl rfl) ?_
  have b16 := b15.sI (a := 33) (i := 8) (x := 0) (by decide)
  refine r_aload_n dX0_init_69 rfl ?_
  refine r_iconst dX0_init_70 ?_
  refine r_putI dX0_init_71 kf_RX0_42 (by decide) sh_33 rfl (Or.inl rfl) ?_
  have b17 := b16.sI (a := 33) (i := 9) (x := 0) (by decide)
  refine r_aload_n dX0_init_74 rfl ?_
  refine r_iconst dX0_init_75 ?_
  refine r_putI dX0_init_76 kf_RX0_45 (by decide) sh_33 rfl (Or.inl rfl) ?_
  have b18 := b17.sI (a := 33) (i := 10) (x := 0) (by decide)
  refine r_aload_n dX0_init_79 rfl ?_
  refine r_iconst dX0_init_80 ?_
  refine r_putI dX0_init_81 kf_RX0_48 (by decide) sh_33 rfl (Or.inl rfl) ?_
  have b19 := b18.sI (a := 33) (i := 11) (x := (-1)) (by decide)
  refine r_aload_n dX0_init_84 rfl ?_
  refine r_iconst dX0_init_85 ?_
  refine r_putI dX0_init_86 kf_RX0_51 (by decide) sh_33 rfl (Or.inl rfl) ?_
  have b20 := b19.sI (a := 33) (i := 12) (x := 0) (by decide)
  exact r_return dX0_init_89 rfl ⟨rfl, rfl⟩
def U_0_41 (σ : ZSto) : ZSto := (sI (sI (sI (sI (sI (sI (sP (sP (sP (sP (sP (sP (sP σ 41 0 (some 42)) 41 1 (some 43)) 41 2 (some 44)) 41 3 (some 45)) 41 4 (some 46)) 41 5 (some 47)) 41 6 (some 48)) 41 7 0) 41 8 0) 41 9 0) 41 10 0) 41 11 (-1)) 41 12 0)
theorem ub_0_41 {σ : ZSto} (b0 : Blk 42 σ) : Blk 49 (U_0_41 σ) := by
  have b1 := b0.mono (n' := 49) (by decide)
  unfold U_0_41
  refine Blk.sI ?_ (by decide)
  refine Blk.sI ?_ (by decide)
  refine Blk.sI ?_ (by decide)
  refine Blk.sI ?_ (by decide)
  refine Blk.sI ?_ (by decide)
  refine Blk.sI ?_ (by decide)
  refine Blk.sP ?_ (by decide)
  refine Blk.sP ?_ (by decide)
  refine Blk.sP ?_ (by decide)
  refine Blk.sP ?_ (by decide)
  refine Blk.sP ?_ (by decide)
  refine Blk.sP ?_ (by decide)
  refine Blk.sP ?_ (by decide)
  exact b1
theorem u_0_41 {X : ZX} {d : Nat} {σ : ZSto} (b0 : Blk 42 σ) : Zc X M_X0_init (d + 1) 42 49 [.ref (zB X + 41)] σ (fun r σ' => r = none ∧ σ' = U_0_41 σ) := by
  refine zc_of (ls := [some (.ref (zB X + 41))]) pl_RX0 (Nat.le_of_ble_eq_true rfl) rfl ?_
  refine r_aload_n dX0_init_0 rfl ?_
  refine r_objInit (d := d) dX0_init_1 ko_RX0 koi koc (zFits_rm d 42 49 42 (by decide)) (Nat.le_of_ble_eq_true rfl) ?_
  refine r_aload_n dX0_init_4 rfl ?_
  refine r_bipush dX0_init_5 rfl ?_
  refine r_newA (d := d) (len := 81) (ty := .byte) dX0_init_7 rfl (Or.inr (Or.inl rfl)) kar_byte sh_42 rfl b0 (zFits_rm d 42 49 43 (by decide)) ?_
  have b1 := b0.mono (n' := 43) (by decide)
  refine r_putFP dX0_init_9 kp_RX0_9 (by decide) sh_41 rfl rfl ?_
  have b2 := b1.sP (a := 41) (i := 0) (x := some 42) (by decide)
  refine r_aload_n dX0_init_12 rfl ?_
  refine r_sipush dX0_init_13 rfl ?_
  refine r_newA (d := d) (len := 324) (ty := .int) dX0_init_16 rfl (Or.inl rfl) kar_int sh_43 rfl b2 (zFits_rm d 42 49 44 (by decide)) ?_
  have b3 := b2.mono (n' := 44) (by decide)
  refine r_putFP dX0_init_18 kp_RX0_15 (by decide) sh_41 rfl rfl ?_
  have b4 := b3.sP (a := 41) (i := 1) (x := some 43) (by decide)
  refine r_aload_n dX0_init_21 rfl ?_
  refine r_bipush dX0_init_22 rfl ?_
  refine r_newA (d := d) (len := 81) (ty := .int) dX0_init_24 rfl (Or.inl rfl) kar_int sh_44 rfl b4 (zFits_rm d 42 49 45 (by decide)) ?_
  have b5 := b4.mono (n' := 45) (by decide)
  refine r_putFP dX0_init_26 kp_RX0_19 (by decide) sh_41 rfl rfl ?_
  have b6 := b5.sP (a := 41) (i := 2) (x := some 44) (by decide)
  refine r_aload_n dX0_init_29 rfl ?_
  refine r_bipush dX0_init_30 rfl ?_
  refine r_newA (d := d) (len := 81) (ty := .int) dX0_init_32 rfl (Or.inl rfl) kar_int sh_45 rfl b6 (zFits_rm d 42 49 46 (by decide)) ?_
  have b7 := b6.mono (n' := 46) (by decide)
  refine r_putFP dX0_init_34 kp_RX0_22 (by decide) sh_41 rfl rfl ?_
  have b8 := b7.sP (a := 41) (i := 3) (x := some 45) (by decide)
  refine r_aload_n dX0_init_37 rfl ?_
  refine r_bipush dX0_init_38 rfl ?_
  refine r_newA (d := d) (len := 81) (ty := .int) dX0_init_40 rfl (Or.inl rfl) kar_int sh_46 rfl b8 (zFits_rm d 42 49 47 (by decide)) ?_
  have b9 := b8.mono (n' := 47) (by decide)
  refine r_putFP dX0_init_42 kp_RX0_25 (by decide) sh_41 rfl rfl ?_
  have b10 := b9.sP (a := 41) (i := 4) (x := some 46) (by decide)
  refine r_aload_n dX0_init_45 rfl ?_
  refine r_iconst dX0_init_46 ?_
  refine r_newA (d := d) (len := 3) (ty := .int) dX0_init_47 rfl (Or.inl rfl) kar_int sh_47 rfl b10 (zFits_rm d 42 49 48 (by decide)) ?_
  have b11 := b10.mono (n' := 48) (by decide)
  refine r_putFP dX0_init_49 kp_RX0_28 (by decide) sh_41 rfl rfl ?_
  have b12 := b11.sP (a := 41) (i := 5) (x := some 47) (by decide)
  refine r_aload_n dX0_init_52 rfl ?_
  refine r_iconst dX0_init_53 ?_
  refine r_newA (d := d) (len := 3) (ty := .long) dX0_init_54 rfl (Or.inr (Or.inr (Or.inr rfl))) kar_long sh_48 rfl b12 (zFits_rm d 42 49 49 (by decide)) ?_
  have b13 := b12.mono (n' := 49) (by decide)
  refine r_putFP dX0_init_56 kp_RX0_31 (by decide) sh_41 rfl rfl ?_
  have b14 := b13.sP (a := 41) (i := 6) (x := some 48) (by decide)
  refine r_aload_n dX0_init_59 rfl ?_
  refine r_iconst dX0_init_60 ?_
  refine r_putI dX0_init_61 kf_RX0_35 (by decide) sh_41 rfl (Or.inl rfl) ?_
  have b15 := b14.sI (a := 41) (i := 7) (x := 0) (by decide)
  refine r_aload_n dX0_init_64 rfl ?_
  refine r_iconst dX0_init_65 ?_
  refine r_putI dX0_init_66 kf_RX0_39 (by decide) sh_41 rfl (Or.inl rfl) ?_
  have b16 := b15.sI (a := 41) (i := 8) (x := 0) (by decide)
  refine r_aload_n dX0_init_69 rfl ?_
  refine r_iconst dX0_init_70 ?_
  refine r_putI dX0_init_71 kf_RX0_42 (by decide) sh_41 rfl (Or.inl rfl) ?_
  have b17 := b16.sI (a := 41) (i := 9) (x := 0) (by decide)
  refine r_aload_n dX0_init_74 rfl ?_
  refine r_iconst dX0_init_75 ?_
  refine r_putI dX0_init_76 kf_RX0_45 (by decide) sh_41 rfl (Or.inl rfl) ?_
  have b18 := b17.sI (a := 41) (i := 10) (x := 0) (by decide)
  refine r_aload_n dX0_init_79 rfl ?_
  refine r_iconst dX0_init_80 ?_
  refine r_putI dX0_init_81 kf_RX0_48 (by decide) sh_41 rfl (Or.inl rfl) ?_
  have b19 := b18.sI (a := 41) (i := 11) (x := (-1)) (by decide)
  refine r_aload_n dX0_init_84 rfl ?_
  refine r_iconst dX0_init_85 ?_
  refine r_putI dX0_init_86 kf_RX0_51 (by decide) sh_41 rfl (Or.inl rfl) ?_
  have b20 := b19.sI (a := 41) (i := 12) (x := 0) (by decide)
  exact r_return dX0_init_89 rfl ⟨rfl, rfl⟩
def U_5_49 (σ : ZSto) : ZSto := (sP (sP (sP (sI (sI (sI (sI (sI (sI (sI (sI (sI (sI (sI (sP (sP σ 49 2 (some 50)) 49 3 (some 51)) 49 5 1) 49 6 0) 49 7 0) 49 8 0) 49 9 (-1)) 49 10 0) 49 11 (-1)) 49 12 0) 49 13 0) 49 14 0) 49 15 (-1)) 49 0 (some 29)) 49 1 (some 41)) 49 4 (some 15))
theorem ub_5_49 {σ : ZSto} (b0 : Blk 50 σ) : Blk 52 (U_5_49 σ) := by
  have b1 := b0.mono (n' := 52) (by decide)
  unfold U_5_49
  refine Blk.sP ?_ (by decide)
  refine Blk.sP ?_ (by decide)
  refine Blk.sP ?_ (by decide)
  refine Blk.sI ?_ (by decide)
  refine Blk.sI ?_ (by decide)
  refine Blk.sI ?_ (by decide)
  refine Blk.sI ?_ (by decide)
  refine Blk.sI ?_ (by decide)
  refine Blk.sI ?_ (by decide)
  refine Blk.sI ?_ (by decide)
  refine Blk.sI ?_ (by decide)
  refine Blk.sI ?_ (by decide)
  refine Blk.sI ?_ (by decide)
  refine Blk.sI ?_ (by decide)
  refine Blk.sP ?_ (by decide)
  refine Blk.sP ?_ (by decide)
  exact b1
theorem u_5_49 {X : ZX} {d : Nat} {σ : ZSto} (b0 : Blk 50 σ) : Zc X M_X5_init (d + 1) 50 52 [.ref (zB X + 49), .ref (zB X + 29), .ref (zB X + 41), .ref (zB X + 15)] σ (fun r σ' => r = none ∧ σ' = U_5_49 σ) := by
  refine zc_of (ls := [some (.ref (zB X + 49)), some (.ref (zB X + 29)), some (.ref (zB X + 41)), some (.ref (zB X + 15))]) pl_RX5 (Nat.le_of_ble_eq_true rfl) rfl ?_
  refine r_aload_n dX5_init_0 rfl ?_
  refine r_objInit (d := d) dX5_init_1 ko_RX5 koi koc (zFits_rm d 50 52 50 (by decide)) (Nat.le_of_ble_eq_true rfl) ?_
  refine r_aload_n dX5_init_4 rfl ?_
  refine r_sipush dX5_init_5 rfl ?_
  refine r_newA (d := d) (len := 252) (ty := .int) dX5_init_8 rfl (Or.inl rfl) kar_int sh_50 rfl b0 (zFits_rm d 50 52 51 (by decide)) ?_
  have b1 := b0.mono (n' := 51) (by decide)
  refine r_putFP dX5_init_10 kp_RX5_11 (by decide) sh_49 rfl rfl ?_
  have b2 := b1.sP (a := 49) (i := 2) (x := some 50) (by decide)
  refine r_aload_n dX5_init_13 rfl ?_
  refine r_iconst dX5_init_14 ?_
  refine r_newA (d := d) (len := 3) (ty := .long) dX5_init_15 rfl (Or.inr (Or.inr (Or.inr rfl))) kar_long sh_51 rfl b2 (zFits_rm d 50 52 52 (by decide)) ?_
  have b3 := b2.mono (n' := 52) (by decide)
  refine r_putFP dX5_init_17 kp_RX5_15 (by decide) sh_49 rfl rfl ?_
  have b4 := b3.sP (a := 49) (i := 3) (x := some 51) (by decide)
  refine r_aload_n dX5_init_20 rfl ?_
  refine r_iconst dX5_init_21 ?_
  refine r_putI dX5_init_22 kf_RX5_19 (by decide) sh_49 rfl (Or.inl rfl) ?_
  have b5 := b4.sI (a := 49) (i := 5) (x := 1) (by decide)
  refine r_aload_n dX5_init_25 rfl ?_
  refine r_iconst dX5_init_26 ?_
  refine r_putI dX5_init_27 kf_RX5_23 (by decide) sh_49 rfl (Or.inl rfl) ?_
  have b6 := b5.sI (a := 49) (i := 6) (x := 0) (by decide)
  refine r_aload_n dX5_init_30 rfl ?_
  refine r_iconst dX5_init_31 ?_
  refine r_putI dX5_init_32 kf_RX5_26 (by decide) sh_49 rfl (Or.inl rfl) ?_
  have b7 := b6.sI (a := 49) (i := 7) (x := 0) (by decide)
  refine r_aload_n dX5_init_35 rfl ?_
  refine r_iconst dX5_init_36 ?_
  refine r_putI dX5_init_37 kf_RX5_29 (by decide) sh_49 rfl (Or.inl rfl) ?_
  have b8 := b7.sI (a := 49) (i := 8) (x := 0) (by decide)
  refine r_aload_n dX5_init_40 rfl ?_
  refine r_iconst dX5_init_41 ?_
  refine r_putI dX5_init_42 kf_RX5_32 (by decide) sh_49 rfl (Or.inl rfl) ?_
  have b9 := b8.sI (a := 49) (i := 9) (x := (-1)) (by decide)
  refine r_aload_n dX5_init_45 rfl ?_
  refine r_iconst dX5_init_46 ?_
  refine r_putI dX5_init_47 kf_RX5_35 (by decide) sh_49 rfl (Or.inl rfl) ?_
  have b10 := b9.sI (a := 49) (i := 10) (x := 0) (by decide)
  refine r_aload_n dX5_init_50 rfl ?_
  refine r_iconst dX5_init_51 ?_
  refine r_putI dX5_init_52 kf_RX5_38 (by decide) sh_49 rfl (Or.inl rfl) ?_
  have b11 := b10.sI (a := 49) (i := 11) (x := (-1)) (by decide)
  refine r_aload_n dX5_init_55 rfl ?_
  refine r_iconst dX5_init_56 ?_
  refine r_putI dX5_init_57 kf_RX5_41 (by decide) sh_49 rfl (Or.inl rfl) ?_
  have b12 := b11.sI (a := 49) (i := 12) (x := 0) (by decide)
  refine r_aload_n dX5_init_60 rfl ?_
  refine r_iconst dX5_init_61 ?_
  refine r_putI dX5_init_62 kf_RX5_44 (by decide) sh_49 rfl (Or.inl rfl) ?_
  have b13 := b12.sI (a := 49) (i := 13) (x := 0) (by decide)
  refine r_aload_n dX5_init_65 rfl ?_
  refine r_iconst dX5_init_66 ?_
  refine r_putI dX5_init_67 kf_RX5_47 (by decide) sh_49 rfl (Or.inl rfl) ?_
  have b14 := b13.sI (a := 49) (i := 14) (x := 0) (by decide)
  refine r_aload_n dX5_init_70 rfl ?_
  refine r_iconst dX5_init_71 ?_
  refine r_putI dX5_init_72 kf_RX5_50 (by decide) sh_49 rfl (Or.inl rfl) ?_
  have b15 := b14.sI (a := 49) (i := 15) (x := (-1)) (by decide)
  refine r_aload_n dX5_init_75 rfl ?_
  refine r_aload_n dX5_init_76 rfl ?_
  refine r_putFP dX5_init_77 kp_RX5_53 (by decide) sh_49 rfl rfl ?_
  have b16 := b15.sP (a := 49) (i := 0) (x := some 29) (by decide)
  refine r_aload_n dX5_init_80 rfl ?_
  refine r_aload_n dX5_init_81 rfl ?_
  refine r_putFP dX5_init_82 kp_RX5_57 (by decide) sh_49 rfl rfl ?_
  have b17 := b16.sP (a := 49) (i := 1) (x := some 41) (by decide)
  refine r_aload_n dX5_init_85 rfl ?_
  refine r_aload_n dX5_init_86 rfl ?_
  refine r_putP dX5_init_87 kf_RX5_61 (by decide) sh_49 rfl rfl ?_
  have b18 := b17.sP (a := 49) (i := 4) (x := some 15) (by decide)
  exact r_return dX5_init_90 rfl ⟨rfl, rfl⟩
def U_8_52 (σ : ZSto) : ZSto := (sP σ 52 0 (some 31))
theorem ub_8_52 {σ : ZSto} (b0 : Blk 53 σ) : Blk 53 (U_8_52 σ) := by
  have b1 := b0.mono (n' := 53) (by decide)
  unfold U_8_52
  refine Blk.sP ?_ (by decide)
  exact b1
theorem u_8_52 {X : ZX} {d : Nat} {σ : ZSto} (b0 : Blk 53 σ) : Zc X M_X8_init (d + 1) 53 53 [.ref (zB X + 52), .ref (zB X + 31)] σ (fun r σ' => r = none ∧ σ' = U_8_52 σ) := by
  refine zc_of (ls := [some (.ref (zB X + 52)), some (.ref (zB X + 31))]) pl_RX8 (Nat.le_of_ble_eq_true rfl) rfl ?_
  refine r_aload_n dX8_init_0 rfl ?_
  refine r_objInit (d := d) dX8_init_1 ko_RX8 koi koc (zFits_rm d 53 53 53 (by decide)) (Nat.le_of_ble_eq_true rfl) ?_
  refine r_aload_n dX8_init_4 rfl ?_
  refine r_aload_n dX8_init_5 rfl ?_
  refine r_putFP dX8_init_6 kp_RX8_9 (by decide) sh_52 rfl rfl ?_
  have b1 := b0.sP (a := 52) (i := 0) (x := some 31) (by decide)
  exact r_return dX8_init_9 rfl ⟨rfl, rfl⟩
def U_4_53 (σ : ZSto) : ZSto := (sP (sI (sI (sP (sP (sP (sP (sP (sP (sP σ 53 1 (some 54)) 53 2 (some 55)) 53 3 (some 56)) 53 4 (some 57)) 53 5 (some 58)) 53 6 (some 59)) 53 7 (some 60)) 53 8 0) 53 9 0) 53 0 (some 33))
theorem ub_4_53 {σ : ZSto} (b0 : Blk 54 σ) : Blk 61 (U_4_53 σ) := by
  have b1 := b0.mono (n' := 61) (by decide)
  unfold U_4_53
  refine Blk.sP ?_ (by decide)
  refine Blk.sI ?_ (by decide)
  refine Blk.sI ?_ (by decide)
  refine Blk.sP ?_ (by decide)
  refine Blk.sP ?_ (by decide)
  refine Blk.sP ?_ (by decide)
  refine Blk.sP ?_ (by decide)
  refine Blk.sP ?_ (by decide)
  refine Blk.sP ?_ (by decide)
  refine Blk.sP ?_ (by decide)
  exact b1
theorem u_4_53 {X : ZX} {d : Nat} {σ : ZSto} (b0 : Blk 54 σ) : Zc X M_X4_init (d + 1) 54 61 [.ref (zB X + 53), .ref (zB X + 33)] σ (fun r σ' => r = none ∧ σ' = U_4_53 σ) := by
  refine zc_of (ls := [some (.ref (zB X + 53)), some (.ref (zB X + 33))]) pl_RX4 (Nat.le_of_ble_eq_true rfl) rfl ?_
  refine r_aload_n dX4_init_0 rfl ?_
  refine r_objInit (d := d) dX4_init_1 ko_RX4 koi koc (zFits_rm d 54 61 54 (by decide)) (Nat.le_of_ble_eq_true rfl) ?_
  refine r_aload_n dX4_init_4 rfl ?_
  refine r_bipush dX4_init_5 rfl ?_
  refine r_newA (d := d) (len := 81) (ty := .int) dX4_init_7 rfl (Or.inl rfl) kar_int sh_54 rfl b0 (zFits_rm d 54 61 55 (by decide)) ?_
  have b1 := b0.mono (n' := 55) (by decide)
  refine r_putFP dX4_init_9 kp_RX4_9 (by decide) sh_53 rfl rfl ?_
  have b2 := b1.sP (a := 53) (i := 1) (x := some 54) (by decide)
  refine r_aload_n dX4_init_12 rfl ?_
  refine r_bipush dX4_init_13 rfl ?_
  refine r_newA (d := d) (len := 81) (ty := .int) dX4_init_15 rfl (Or.inl rfl) kar_int sh_55 rfl b2 (zFits_rm d 54 61 56 (by decide)) ?_
  have b3 := b2.mono (n' := 56) (by decide)
  refine r_putFP dX4_init_17 kp_RX4_15 (by decide) sh_53 rfl rfl ?_
  have b4 := b3.sP (a := 53) (i := 2) (x := some 55) (by decide)
  refine r_aload_n dX4_init_20 rfl ?_
  refine r_bipush dX4_init_21 rfl ?_
  refine r_newA (d := d) (len := 64) (ty := .int) dX4_init_23 rfl (Or.inl rfl) kar_int sh_56 rfl b4 (zFits_rm d 54 61 57 (by decide)) ?_
  have b5 := b4.mono (n' := 57) (by decide)
  refine r_putFP dX4_init_25 kp_RX4_18 (by decide) sh_53 rfl rfl ?_
  have b6 := b5.sP (a := 53) (i := 3) (x := some 56) (by decide)
  refine r_aload_n dX4_init_28 rfl ?_
  refine r_bipush dX4_init_29 rfl ?_
  refine r_newA (d := d) (len := 64) (ty := .int) dX4_init_31 rfl (Or.inl rfl) kar_int sh_57 rfl b6 (zFits_rm d 54 61 58 (by decide)) ?_
  have b7 := b6.mono (n' := 58) (by decide)
  refine r_putFP dX4_init_33 kp_RX4_21 (by decide) sh_53 rfl rfl ?_
  have b8 := b7.sP (a := 53) (i := 4) (x := some 57) (by decide)
  refine r_aload_n dX4_init_36 rfl ?_
  refine r_bipush dX4_init_37 rfl ?_
  refine r_newA (d := d) (len := 64) (ty := .int) dX4_init_39 rfl (Or.inl rfl) kar_int sh_58 rfl b8 (zFits_rm d 54 61 59 (by decide)) ?_
  have b9 := b8.mono (n' := 59) (by decide)
  refine r_putFP dX4_init_41 kp_RX4_24 (by decide) sh_53 rfl rfl ?_
  have b10 := b9.sP (a := 53) (i := 5) (x := some 58) (by decide)
  refine r_aload_n dX4_init_44 rfl ?_
  refine r_bipush dX4_init_45 rfl ?_
  refine r_newA (d := d) (len := 64) (ty := .long) dX4_init_47 rfl (Or.inr (Or.inr (Or.inr rfl))) kar_long sh_59 rfl b10 (zFits_rm d 54 61 60 (by decide)) ?_
  have b11 := b10.mono (n' := 60) (by decide)
  refine r_putFP dX4_init_49 kp_RX4_27 (by decide) sh_53 rfl rfl ?_
  have b12 := b11.sP (a := 53) (i := 6) (x := some 59) (by decide)
  refine r_aload_n dX4_init_52 rfl ?_
  refine r_bipush dX4_init_53 rfl ?_
  refine r_newA (d := d) (len := 64) (ty := .long) dX4_init_55 rfl (Or.inr (Or.inr (Or.inr rfl))) kar_long sh_60 rfl b12 (zFits_rm d 54 61 61 (by decide)) ?_
  have b13 := b12.mono (n' := 61) (by decide)
  refine r_putFP dX4_init_57 kp_RX4_31 (by decide) sh_53 rfl rfl ?_
  have b14 := b13.sP (a := 53) (i := 7) (x := some 60) (by decide)
  refine r_aload_n dX4_init_60 rfl ?_
  refine r_iconst dX4_init_61 ?_
  refine r_putI dX4_init_62 kf_RX4_34 (by decide) sh_53 rfl (Or.inl rfl) ?_
  have b15 := b14.sI (a := 53) (i := 8) (x := 0) (by decide)
  refine r_aload_n dX4_init_65 rfl ?_
  refine r_iconst dX4_init_66 ?_
  refine r_putI dX4_init_67 kf_RX4_38 (by decide) sh_53 rfl (Or.inl rfl) ?_
  have b16 := b15.sI (a := 53) (i := 9) (x := 0) (by decide)
  refine r_aload_n dX4_init_70 rfl ?_
  refine r_aload_n dX4_init_71 rfl ?_
  refine r_putFP dX4_init_72 kp_RX4_41 (by decide) sh_53 rfl rfl ?_
  have b17 := b16.sP (a := 53) (i := 0) (x := some 33) (by decide)
  exact r_return dX4_init_75 rfl ⟨rfl, rfl⟩
def U_3_61 (σ : ZSto) : ZSto := (sP (sI (sI (sI (sI (sI (sP (sP (sP (sP (sP σ 61 1 (some 62)) 61 2 (some 63)) 61 3 (some 64)) 61 4 (some 65)) 61 5 (some 66)) 61 6 0) 61 7 1) 61 8 0) 61 9 (-1)) 61 10 (-1)) 61 0 (some 41))
theorem ub_3_61 {σ : ZSto} (b0 : Blk 62 σ) : Blk 67 (U_3_61 σ) := by
  have b1 := b0.mono (n' := 67) (by decide)
  unfold U_3_61
  refine Blk.sP ?_ (by decide)
  refine Blk.sI ?_ (by decide)
  refine Blk.sI ?_ (by decide)
  refine Blk.sI ?_ (by decide)
  refine Blk.sI ?_ (by decide)
  refine Blk.sI ?_ (by decide)
  refine Blk.sP ?_ (by decide)
  refine Blk.sP ?_ (by decide)
  refine Blk.sP ?_ (by decide)
  refine Blk.sP ?_ (by decide)
  refine Blk.sP ?_ (by decide)
  exact b1
theorem u_3_61 {X : ZX} {d : Nat} {σ : ZSto} (b0 : Blk 62 σ) : Zc X M_X3_init (d + 1) 62 67 [.ref (zB X + 61), .ref (zB X + 41)] σ (fun r σ' => r = none ∧ σ' = U_3_61 σ) := by
  refine zc_of (ls := [some (.ref (zB X + 61)), some (.ref (zB X + 41))]) pl_RX3 (Nat.le_of_ble_eq_true rfl) rfl ?_
  refine r_aload_n dX3_init_0 rfl ?_
  refine r_objInit (d := d) dX3_init_1 ko_RX3 koi koc (zFits_rm d 62 67 62 (by decide)) (Nat.le_of_ble_eq_true rfl) ?_
  refine r_aload_n dX3_init_4 rfl ?_
  refine r_sipush dX3_init_5 rfl ?_
  refine r_newA (d := d) (len := 1803) (ty := .long) dX3_init_8 rfl (Or.inr (Or.inr (Or.inr rfl))) kar_long sh_62 rfl b0 (zFits_rm d 62 67 63 (by decide)) ?_
  have b1 := b0.mono (n' := 63) (by decide)
  refine r_putFP dX3_init_10 kp_RX3_11 (by decide) sh_61 rfl rfl ?_
  have b2 := b1.sP (a := 61) (i := 1) (x := some 62) (by decide)
  refine r_aload_n dX3_init_13 rfl ?_
  refine r_sipush dX3_init_14 rfl ?_
  refine r_newA (d := d) (len := 601) (ty := .long) dX3_init_17 rfl (Or.inr (Or.inr (Or.inr rfl))) kar_long sh_63 rfl b2 (zFits_rm d 62 67 64 (by decide)) ?_
  have b3 := b2.mono (n' := 64) (by decide)
  refine r_putFP dX3_init_19 kp_RX3_15 (by decide) sh_61 rfl rfl ?_
  have b4 := b3.sP (a := 61) (i := 2) (x := some 63) (by decide)
  refine r_aload_n dX3_init_22 rfl ?_
  refine r_sipush dX3_init_23 rfl ?_
  refine r_newA (d := d) (len := 601) (ty := .long) dX3_init_26 rfl (Or.inr (Or.inr (Or.inr rfl))) kar_long sh_64 rfl b4 (zFits_rm d 62 67 65 (by decide)) ?_
  have b5 := b4.mono (n' := 65) (by decide)
  refine r_putFP dX3_init_28 kp_RX3_18 (by decide) sh_61 rfl rfl ?_
  have b6 := b5.sP (a := 61) (i := 3) (x := some 64) (by decide)
  refine r_aload_n dX3_init_31 rfl ?_
  refine r_sipush dX3_init_32 rfl ?_
  refine r_newA (d := d) (len := 601) (ty := .int) dX3_init_35 rfl (Or.inl rfl) kar_int sh_65 rfl b6 (zFits_rm d 62 67 66 (by decide)) ?_
  have b7 := b6.mono (n' := 66) (by decide)
  refine r_putFP dX3_init_37 kp_RX3_21 (by decide) sh_61 rfl rfl ?_
  have b8 := b7.sP (a := 61) (i := 4) (x := some 65) (by decide)
  refine r_aload_n dX3_init_40 rfl ?_
  refine r_sipush dX3_init_41 rfl ?_
  refine r_newA (d := d) (len := 601) (ty := .int) dX3_init_44 rfl (Or.inl rfl) kar_int sh_66 rfl b8 (zFits_rm d 62 67 67 (by decide)) ?_
  have b9 := b8.mono (n' := 67) (by decide)
  refine r_putFP dX3_init_46 kp_RX3_25 (by decide) sh_61 rfl rfl ?_
  have b10 := b9.sP (a := 61) (i := 5) (x := some 66) (by decide)
  refine r_aload_n dX3_init_49 rfl ?_
  refine r_iconst dX3_init_50 ?_
  refine r_putI dX3_init_51 kf_RX3_28 (by decide) sh_61 rfl (Or.inl rfl) ?_
  have b11 := b10.sI (a := 61) (i := 6) (x := 0) (by decide)
  refine r_aload_n dX3_init_54 rfl ?_
  refine r_iconst dX3_init_55 ?_
  refine r_putI dX3_init_56 kf_RX3_32 (by decide) sh_61 rfl (Or.inl rfl) ?_
  have b12 := b11.sI (a := 61) (i := 7) (x := 1) (by decide)
  refine r_aload_n dX3_init_59 rfl ?_
  refine r_iconst dX3_init_60 ?_
  refine r_putI dX3_init_61 kf_RX3_35 (by decide) sh_61 rfl (Or.inl rfl) ?_
  have b13 := b12.sI (a := 61) (i := 8) (x := 0) (by decide)
  refine r_aload_n dX3_init_64 rfl ?_
  refine r_iconst dX3_init_65 ?_
  refine r_putI dX3_init_66 kf_RX3_38 (by decide) sh_61 rfl (Or.inl rfl) ?_
  have b14 := b13.sI (a := 61) (i := 9) (x := (-1)) (by decide)
  refine r_aload_n dX3_init_69 rfl ?_
  refine r_iconst dX3_init_70 ?_
  refine r_putI dX3_init_71 kf_RX3_41 (by decide) sh_61 rfl (Or.inl rfl) ?_
  have b15 := b14.sI (a := 61) (i := 10) (x := (-1)) (by decide)
  refine r_aload_n dX3_init_74 rfl ?_
  refine r_aload_n dX3_init_75 rfl ?_
  refine r_putFP dX3_init_76 kp_RX3_44 (by decide) sh_61 rfl rfl ?_
  have b16 := b15.sP (a := 61) (i := 0) (x := some 41) (by decide)
  exact r_return dX3_init_79 rfl ⟨rfl, rfl⟩
def U_6_67 (σ : ZSto) : ZSto := (sP (sP (sP (sP (sP σ 67 2 (some 68)) 67 3 (some 69)) 67 4 (some 70)) 67 0 (some 33)) 67 1 (some 41))
theorem ub_6_67 {σ : ZSto} (b0 : Blk 68 σ) : Blk 71 (U_6_67 σ) := by
  have b1 := b0.mono (n' := 71) (by decide)
  unfold U_6_67
  refine Blk.sP ?_ (by decide)
  refine Blk.sP ?_ (by decide)
  refine Blk.sP ?_ (by decide)
  refine Blk.sP ?_ (by decide)
  refine Blk.sP ?_ (by decide)
  exact b1
theorem u_6_67 {X : ZX} {d : Nat} {σ : ZSto} (b0 : Blk 68 σ) : Zc X M_X6_init (d + 1) 68 71 [.ref (zB X + 67), .ref (zB X + 33), .ref (zB X + 41)] σ (fun r σ' => r = none ∧ σ' = U_6_67 σ) := by
  refine zc_of (ls := [some (.ref (zB X + 67)), some (.ref (zB X + 33)), some (.ref (zB X + 41))]) pl_RX6 (Nat.le_of_ble_eq_true rfl) rfl ?_
  refine r_aload_n dX6_init_0 rfl ?_
  refine r_objInit (d := d) dX6_init_1 ko_RX6 koi koc (zFits_rm d 68 71 68 (by decide)) (Nat.le_of_ble_eq_true rfl) ?_
  refine r_aload_n dX6_init_4 rfl ?_
  refine r_bipush dX6_init_5 rfl ?_
  refine r_newA (d := d) (len := 81) (ty := .boolean) dX6_init_7 rfl (Or.inr (Or.inr (Or.inl rfl))) kar_boolean sh_68 rfl b0 (zFits_rm d 68 71 69 (by decide)) ?_
  have b1 := b0.mono (n' := 69) (by decide)
  refine r_putFP dX6_init_9 kp_RX6_9 (by decide) sh_67 rfl rfl ?_
  have b2 := b1.sP (a := 67) (i := 2) (x := some 68) (by decide)
  refine r_aload_n dX6_init_12 rfl ?_
  refine r_iconst dX6_init_13 ?_
  refine r_newA (d := d) (len := 3) (ty := .int) dX6_init_14 rfl (Or.inl rfl) kar_int sh_69 rfl b2 (zFits_rm d 68 71 70 (by decide)) ?_
  have b3 := b2.mono (n' := 70) (by decide)
  refine r_putFP dX6_init_16 kp_RX6_15 (by decide) sh_67 rfl rfl ?_
  have b4 := b3.sP (a := 67) (i := 3) (x := some 69) (by decide)
  refine r_aload_n dX6_init_19 rfl ?_
  refine r_iconst dX6_init_20 ?_
  refine r_newA (d := d) (len := 3) (ty := .int) dX6_init_21 rfl (Or.inl rfl) kar_int sh_70 rfl b4 (zFits_rm d 68 71 71 (by decide)) ?_
  have b5 := b4.mono (n' := 71) (by decide)
  refine r_putFP dX6_init_23 kp_RX6_19 (by decide) sh_67 rfl rfl ?_
  have b6 := b5.sP (a := 67) (i := 4) (x := some 70) (by decide)
  refine r_aload_n dX6_init_26 rfl ?_
  refine r_aload_n dX6_init_27 rfl ?_
  refine r_putFP dX6_init_28 kp_RX6_22 (by decide) sh_67 rfl rfl ?_
  have b7 := b6.sP (a := 67) (i := 0) (x := some 33) (by decide)
  refine r_aload_n dX6_init_31 rfl ?_
  refine r_aload_n dX6_init_32 rfl ?_
  refine r_putFP dX6_init_33 kp_RX6_26 (by decide) sh_67 rfl rfl ?_
  have b8 := b7.sP (a := 67) (i := 1) (x := some 41) (by decide)
  exact r_return dX6_init_36 rfl ⟨rfl, rfl⟩
def U_2_71 (σ : ZSto) : ZSto := (sI (sI (sI (sI σ 71 0 0) 71 1 0) 71 2 0) 71 3 0)
theorem ub_2_71 {σ : ZSto} (b0 : Blk 72 σ) : Blk 72 (U_2_71 σ) := by
  have b1 := b0.mono (n' := 72) (by decide)
  unfold U_2_71
  refine Blk.sI ?_ (by decide)
  refine Blk.sI ?_ (by decide)
  refine Blk.sI ?_ (by decide)
  refine Blk.sI ?_ (by decide)
  exact b1
theorem u_2_71 {X : ZX} {d : Nat} {σ : ZSto} (b0 : Blk 72 σ) : Zc X M_X2_init (d + 1) 72 72 [.ref (zB X + 71)] σ (fun r σ' => r = none ∧ σ' = U_2_71 σ) := by
  refine zc_of (ls := [some (.ref (zB X + 71))]) pl_RX2 (Nat.le_of_ble_eq_true rfl) rfl ?_
  refine r_aload_n dX2_init_0 rfl ?_
  refine r_objInit (d := d) dX2_init_1 ko_RX2 koi koc (zFits_rm d 72 72 72 (by decide)) (Nat.le_of_ble_eq_true rfl) ?_
  refine r_aload_n dX2_init_4 rfl ?_
  refine r_iconst dX2_init_5 ?_
  refine r_putI dX2_init_6 kf_RX2_9 (by decide) sh_71 rfl (Or.inl rfl) ?_
  have b1 := b0.sI (a := 71) (i := 0) (x := 0) (by decide)
  refine r_aload_n dX2_init_9 rfl ?_
  refine r_iconst dX2_init_10 ?_
  refine r_putI dX2_init_11 kf_RX2_15 (by decide) sh_71 rfl (Or.inl rfl) ?_
  have b2 := b1.sI (a := 71) (i := 1) (x := 0) (by decide)
  refine r_aload_n dX2_init_14 rfl ?_
  refine r_iconst dX2_init_15 ?_
  refine r_putI dX2_init_16 kf_RX2_18 (by decide) sh_71 rfl (Or.inl rfl) ?_
  have b3 := b2.sI (a := 71) (i := 2) (x := 0) (by decide)
  refine r_aload_n dX2_init_19 rfl ?_
  refine r_iconst dX2_init_20 ?_
  refine r_putI dX2_init_21 kf_RX2_21 (by decide) sh_71 rfl (Or.inr ⟨rfl, Or.inl rfl⟩) ?_
  have b4 := b3.sI (a := 71) (i := 3) (x := 0) (by decide)
  exact r_return dX2_init_24 rfl ⟨rfl, rfl⟩
def U_2_72 (σ : ZSto) : ZSto := (sI (sI (sI (sI σ 72 0 0) 72 1 0) 72 2 0) 72 3 0)
theorem ub_2_72 {σ : ZSto} (b0 : Blk 73 σ) : Blk 73 (U_2_72 σ) := by
  have b1 := b0.mono (n' := 73) (by decide)
  unfold U_2_72
  refine Blk.sI ?_ (by decide)
  refine Blk.sI ?_ (by decide)
  refine Blk.sI ?_ (by decide)
  refine Blk.sI ?_ (by decide)
  exact b1
theorem u_2_72 {X : ZX} {d : Nat} {σ : ZSto} (b0 : Blk 73 σ) : Zc X M_X2_init (d + 1) 73 73 [.ref (zB X + 72)] σ (fun r σ' => r = none ∧ σ' = U_2_72 σ) := by
  refine zc_of (ls := [some (.ref (zB X + 72))]) pl_RX2 (Nat.le_of_ble_eq_true rfl) rfl ?_
  refine r_aload_n dX2_init_0 rfl ?_
  refine r_objInit (d := d) dX2_init_1 ko_RX2 koi koc (zFits_rm d 73 73 73 (by decide)) (Nat.le_of_ble_eq_true rfl) ?_
  refine r_aload_n dX2_init_4 rfl ?_
  refine r_iconst dX2_init_5 ?_
  refine r_putI dX2_init_6 kf_RX2_9 (by decide) sh_72 rfl (Or.inl rfl) ?_
  have b1 := b0.sI (a := 72) (i := 0) (x := 0) (by decide)
  refine r_aload_n dX2_init_9 rfl ?_
  refine r_iconst dX2_init_10 ?_
  refine r_putI dX2_init_11 kf_RX2_15 (by decide) sh_72 rfl (Or.inl rfl) ?_
  have b2 := b1.sI (a := 72) (i := 1) (x := 0) (by decide)
  refine r_aload_n dX2_init_14 rfl ?_
  refine r_iconst dX2_init_15 ?_
  refine r_putI dX2_init_16 kf_RX2_18 (by decide) sh_72 rfl (Or.inl rfl) ?_
  have b3 := b2.sI (a := 72) (i := 2) (x := 0) (by decide)
  refine r_aload_n dX2_init_19 rfl ?_
  refine r_iconst dX2_init_20 ?_
  refine r_putI dX2_init_21 kf_RX2_21 (by decide) sh_72 rfl (Or.inr ⟨rfl, Or.inl rfl⟩) ?_
  have b4 := b3.sI (a := 72) (i := 3) (x := 0) (by decide)
  exact r_return dX2_init_24 rfl ⟨rfl, rfl⟩
def U_9_0 (σ : ZSto) : ZSto := (sI (sP (U_2_72 (sP (U_2_71 (sP (U_6_67 (sP (U_3_61 (sP (U_4_53 (sP (U_8_52 (sP (U_5_49 (sP (U_0_41 (sP (U_0_33 (sP (U_1_31 (sP (U_1_29 (sP (U_7_15 (sP (U_7_1 σ) 0 0 (some 1))) 0 1 (some 15))) 0 2 (some 29))) 0 3 (some 31))) 0 4 (some 33))) 0 5 (some 41))) 0 6 (some 49))) 0 7 (some 52))) 0 8 (some 53))) 0 9 (some 61))) 0 10 (some 67))) 0 11 (some 71))) 0 12 (some 72)) 0 13 1)
def U_10_73 (σ : ZSto) : ZSto := (sP (sP (sP (sP (sP (sP (sI (sI (sP (sP (sP (sP (sP (sP (sP (sP (sP (sI (sP (sP (sP (sP (sP (sI (sP (sP (sP (sP (sP (sP (sP (sP (sP (sP σ 73 0 (some 74)) 73 1 (some 75)) 73 2 (some 76)) 73 3 (some 77)) 73 4 (some 78)) 73 5 (some 79)) 73 6 (some 80)) 73 7 (some 81)) 73 8 (some 82)) 73 9 (some 83)) 73 12 1) 73 14 (some 84)) 73 15 (some 85)) 73 16 (some 86)) 73 17 (some 87)) 73 19 (some 88)) 73 23 (-1)) 73 25 (some 89)) 73 30 (some 90)) 73 32 (some 91)) 73 33 (some 92)) 73 34 (some 93)) 73 35 (some 94)) 73 36 (some 95)) 73 37 (some 96)) 73 38 (some 97)) 73 41 (-1)) 73 42 (-1)) 73 45 (some 98)) 73 46 (some 99)) 73 47 (some 100)) 73 48 (some 101)) 73 49 (some 102)) 73 50 (some 103))
theorem ub_9_0 {X : ZX} {d : Nat} {σ : ZSto} {P : ZSto → Prop} (b0 : Blk 1 σ) (hok : ZOk 73 (U_9_0 σ)) (h : ZkV X M_X9_startGame (d + 1) 73 [.ref (zB X + 0), iV 9, iV 0] (U_9_0 σ) P) : Zc X M_X9_init (d + 2) 1 73 [.ref (zB X + 0)] σ (fun r σ' => r = none ∧ ZOk 73 σ' ∧ P σ') := by
  refine zc_of (ls := [some (.ref (zB X + 0))]) pl_RX9 (Nat.le_of_ble_eq_true rfl) rfl ?_
  refine r_aload_n dX9_init_0 rfl ?_
  refine r_objInit (d := d + 1) dX9_init_1 ko_RX9 koi koc (zFits_rm (d + 1) 1 73 1 (by decide)) (Nat.le_of_ble_eq_true rfl) ?_
  refine r_aload_n dX9_init_4 rfl ?_
  refine r_newO (d := d + 1) (q := (RX7, TX7, 17)) dX9_init_5 rfl kn_RX9_7 kin_7 kii_7 sh_1 b0 (zFits_rm (d + 1) 1 73 2 (by decide)) ?_
  have b1 := b0.mono (n' := 2) (by decide)
  refine r_dup dX9_init_8 rfl ?_
  refine r_callI (d := d + 1) (N := M_X7_init) (As := []) (st := [.ref (zB X + 1), .ref (zB X + 0)]) dX9_init_9 mk_X7_init km_RX9_9 kd_X7_init rfl (zFits_rm (d + 1) 1 73 15 (by decide)) (by decide) (Nat.le_of_ble_eq_true rfl) rfl ((u_7_1 b1).mono ?_)
  rintro _ _ ⟨rfl, rfl⟩
  change Zm _ _ _ _ _ _ 12 _ [.ref (zB X + 1), .ref (zB X + 0)] _
  have b2 := ub_7_1 b1
  refine r_putP dX9_init_12 kf_RX9_10 (by decide) sh_0 rfl rfl ?_
  have b3 := b2.sP (a := 0) (i := 0) (x := some 1) (by decide)
  refine r_aload_n dX9_init_15 rfl ?_
  refine r_newO (d := d + 1) (q := (RX7, TX7, 17)) dX9_init_16 rfl kn_RX9_7 kin_7 kii_7 sh_15 b3 (zFits_rm (d + 1) 1 73 16 (by decide)) ?_
  have b4 := b3.mono (n' := 16) (by decide)
  refine r_dup dX9_init_19 rfl ?_
  refine r_callI (d := d + 1) (N := M_X7_init) (As := []) (st := [.ref (zB X + 15), .ref (zB X + 0)]) dX9_init_20 mk_X7_init km_RX9_9 kd_X7_init rfl (zFits_rm (d + 1) 1 73 29 (by decide)) (by decide) (Nat.le_of_ble_eq_true rfl) rfl ((u_7_15 b4).mono ?_)
  rintro _ _ ⟨rfl, rfl⟩
  change Zm _ _ _ _ _ _ 23 _ [.ref (zB X + 15), .ref (zB X + 0)] _
  have b5 := ub_7_15 b4
  refine r_putP dX9_init_23 kf_RX9_16 (by decide) sh_0 rfl rfl ?_
  have b6 := b5.sP (a := 0) (i := 1) (x := some 15) (by decide)
  refine r_aload_n dX9_init_26 rfl ?_
  refine r_newO (d := d + 1) (q := (RX1, TX1, 2)) dX9_init_27 rfl kn_RX9_19 kin_1 kii_1 sh_29 b6 (zFits_rm (d + 1) 1 73 30 (by decide)) ?_
  have b7 := b6.mono (n' := 30) (by decide)
  refine r_dup dX9_init_30 rfl ?_
  refine r_sipush dX9_init_31 rfl ?_
  refine r_callI (d := d + 1) (N := M_X1_init) (As := [iV 1500]) (st := [.ref (zB X + 29), .ref (zB X + 0)]) dX9_init_34 mk_X1_init km_RX9_21 kd_X1_init rfl (zFits_rm (d + 1) 1 73 31 (by decide)) (by decide) (Nat.le_of_ble_eq_true rfl) rfl ((u_1_29 b7).mono ?_)
  rintro _ _ ⟨rfl, rfl⟩
  change Zm _ _ _ _ _ _ 37 _ [.ref (zB X + 29), .ref (zB X + 0)] _
  have b8 := ub_1_29 b7
  refine r_putFP dX9_init_37 kp_RX9_24 (by decide) sh_0 rfl rfl ?_
  have b9 := b8.sP (a := 0) (i := 2) (x := some 29) (by decide)
  refine r_aload_n dX9_init_40 rfl ?_
  refine r_newO (d := d + 1) (q := (RX1, TX1, 2)) dX9_init_41 rfl kn_RX9_19 kin_1 kii_1 sh_31 b9 (zFits_rm (d + 1) 1 73 32 (by decide)) ?_
  have b10 := b9.mono (n' := 32) (by decide)
  refine r_dup dX9_init_44 rfl ?_
  refine r_sipush dX9_init_45 rfl ?_
  refine r_callI (d := d + 1) (N := M_X1_init) (As := [iV 4096]) (st := [.ref (zB X + 31), .ref (zB X + 0)]) dX9_init_48 mk_X1_init km_RX9_21 kd_X1_init rfl (zFits_rm (d + 1) 1 73 33 (by decide)) (by decide) (Nat.le_of_ble_eq_true rfl) rfl ((u_1_31 b10).mono ?_)
  rintro _ _ ⟨rfl, rfl⟩
  change Zm _ _ _ _ _ _ 51 _ [.ref (zB X + 31), .ref (zB X + 0)] _
  have b11 := ub_1_31 b10
  refine r_putFP dX9_init_51 kp_RX9_28 (by decide) sh_0 rfl rfl ?_
  have b12 := b11.sP (a := 0) (i := 3) (x := some 31) (by decide)
  refine r_aload_n dX9_init_54 rfl ?_
  refine r_newO (d := d + 1) (q := (RX0, TX0, 13)) dX9_init_55 rfl kn_RX9_31 kin_0 kii_0 sh_33 b12 (zFits_rm (d + 1) 1 73 34 (by decide)) ?_
  have b13 := b12.mono (n' := 34) (by decide)
  refine r_dup dX9_init_58 rfl ?_
  refine r_callI (d := d + 1) (N := M_X0_init) (As := []) (st := [.ref (zB X + 33), .ref (zB X + 0)]) dX9_init_59 mk_X0_init km_RX9_33 kd_X0_init rfl (zFits_rm (d + 1) 1 73 41 (by decide)) (by decide) (Nat.le_of_ble_eq_true rfl) rfl ((u_0_33 b13).mono ?_)
  rintro _ _ ⟨rfl, rfl⟩
  change Zm _ _ _ _ _ _ 62 _ [.ref (zB X + 33), .ref (zB X + 0)] _
  have b14 := ub_0_33 b13
  refine r_putFP dX9_init_62 kp_RX9_34 (by decide) sh_0 rfl rfl ?_
  have b15 := b14.sP (a := 0) (i := 4) (x := some 33) (by decide)
  refine r_aload_n dX9_init_65 rfl ?_
  refine r_newO (d := d + 1) (q := (RX0, TX0, 13)) dX9_init_66 rfl kn_RX9_31 kin_0 kii_0 sh_41 b15 (zFits_rm (d + 1) 1 73 42 (by decide)) ?_
  have b16 := b15.mono (n' := 42) (by decide)
  refine r_dup dX9_init_69 rfl ?_
  refine r_callI (d := d + 1) (N := M_X0_init) (As := []) (st := [.ref (zB X + 41), .ref (zB X + 0)]) dX9_init_70 mk_X0_init km_RX9_33 kd_X0_init rfl (zFits_rm (d + 1) 1 73 49 (by decide)) (by decide) (Nat.le_of_ble_eq_true rfl) rfl ((u_0_41 b16).mono ?_)
  rintro _ _ ⟨rfl, rfl⟩
  change Zm _ _ _ _ _ _ 73 _ [.ref (zB X + 41), .ref (zB X + 0)] _
  have b17 := ub_0_41 b16
  refine r_putFP dX9_init_73 kp_RX9_38 (by decide) sh_0 rfl rfl ?_
  have b18 := b17.sP (a := 0) (i := 5) (x := some 41) (by decide)
  refine r_aload_n dX9_init_76 rfl ?_
  refine r_newO (d := d + 1) (q := (RX5, TX5, 16)) dX9_init_77 rfl kn_RX9_41 kin_5 kii_5 sh_49 b18 (zFits_rm (d + 1) 1 73 50 (by decide)) ?_
  have b19 := b18.mono (n' := 50) (by decide)
  refine r_dup dX9_init_80 rfl ?_
  refine r_aload_n dX9_init_81 rfl ?_
  refine r_getP (a := 29) dX9_init_82 kf_RX9_24 (by decide) sh_0 rfl (by rfl) ?_
  refine r_aload_n dX9_init_85 rfl ?_
  refine r_getP (a := 41) dX9_init_86 kf_RX9_38 (by decide) sh_0 rfl (by rfl) ?_
  refine r_aload_n dX9_init_89 rfl ?_
  refine r_getP (a := 15) dX9_init_90 kf_RX9_16 (by decide) sh_0 rfl (by rfl) ?_
  refine r_callI (d := d + 1) (N := M_X5_init) (As := [.ref (zB X + 29), .ref (zB X + 41), .ref (zB X + 15)]) (st := [.ref (zB X + 49), .ref (zB X + 0)]) dX9_init_93 mk_X5_init km_RX9_43 kd_X5_init rfl (zFits_rm (d + 1) 1 73 52 (by decide)) (by decide) (Nat.le_of_ble_eq_true rfl) rfl ((u_5_49 b19).mono ?_)
  rintro _ _ ⟨rfl, rfl⟩
  change Zm _ _ _ _ _ _ 96 _ [.ref (zB X + 49), .ref (zB X + 0)] _
  have b20 := ub_5_49 b19
  refine r_putFP dX9_init_96 kp_RX9_46 (by decide) sh_0 rfl rfl ?_
  have b21 := b20.sP (a := 0) (i := 6) (x := some 49) (by decide)
  refine r_aload_n dX9_init_99 rfl ?_
  refine r_newO (d := d + 1) (q := (RX8, TX8, 1)) dX9_init_100 rfl kn_RX9_50 kin_8 kii_8 sh_52 b21 (zFits_rm (d + 1) 1 73 53 (by decide)) ?_
  have b22 := b21.mono (n' := 53) (by decide)
  refine r_dup dX9_init_103 rfl ?_
  refine r_aload_n dX9_init_104 rfl ?_
  refine r_getP (a := 31) dX9_init_105 kf_RX9_28 (by decide) sh_0 rfl (by rfl) ?_
  refine r_callI (d := d + 1) (N := M_X8_init) (As := [.ref (zB X + 31)]) (st := [.ref (zB X + 52), .ref (zB X + 0)]) dX9_init_108 mk_X8_init km_RX9_52 kd_X8_init rfl (zFits_rm (d + 1) 1 73 53 (by decide)) (by decide) (Nat.le_of_ble_eq_true rfl) rfl ((u_8_52 b22).mono ?_)
  rintro _ _ ⟨rfl, rfl⟩
  change Zm _ _ _ _ _ _ 111 _ [.ref (zB X + 52), .ref (zB X + 0)] _
  have b23 := ub_8_52 b22
  refine r_putFP dX9_init_111 kp_RX9_55 (by decide) sh_0 rfl rfl ?_
  have b24 := b23.sP (a := 0) (i := 7) (x := some 52) (by decide)
  refine r_aload_n dX9_init_114 rfl ?_
  refine r_newO (d := d + 1) (q := (RX4, TX4, 10)) dX9_init_115 rfl kn_RX9_59 kin_4 kii_4 sh_53 b24 (zFits_rm (d + 1) 1 73 54 (by decide)) ?_
  have b25 := b24.mono (n' := 54) (by decide)
  refine r_dup dX9_init_118 rfl ?_
  refine r_aload_n dX9_init_119 rfl ?_
  refine r_getP (a := 33) dX9_init_120 kf_RX9_34 (by decide) sh_0 rfl (by rfl) ?_
  refine r_callI (d := d + 1) (N := M_X4_init) (As := [.ref (zB X + 33)]) (st := [.ref (zB X + 53), .ref (zB X + 0)]) dX9_init_123 mk_X4_init km_RX9_61 kd_X4_init rfl (zFits_rm (d + 1) 1 73 61 (by decide)) (by decide) (Nat.le_of_ble_eq_true rfl) rfl ((u_4_53 b25).mono ?_)
  rintro _ _ ⟨rfl, rfl⟩
  change Zm _ _ _ _ _ _ 126 _ [.ref (zB X + 53), .ref (zB X + 0)] _
  have b26 := ub_4_53 b25
  refine r_putFP dX9_init_126 kp_RX9_64 (by decide) sh_0 rfl rfl ?_
  have b27 := b26.sP (a := 0) (i := 8) (x := some 53) (by decide)
  refine r_aload_n dX9_init_129 rfl ?_
  refine r_newO (d := d + 1) (q := (RX3, TX3, 11)) dX9_init_130 rfl kn_RX9_68 kin_3 kii_3 sh_61 b27 (zFits_rm (d + 1) 1 73 62 (by decide)) ?_
  have b28 := b27.mono (n' := 62) (by decide)
  refine r_dup dX9_init_133 rfl ?_
  refine r_aload_n dX9_init_134 rfl ?_
  refine r_getP (a := 41) dX9_init_135 kf_RX9_38 (by decide) sh_0 rfl (by rfl) ?_
  refine r_callI (d := d + 1) (N := M_X3_init) (As := [.ref (zB X + 41)]) (st := [.ref (zB X + 61), .ref (zB X + 0)]) dX9_init_138 mk_X3_init km_RX9_70 kd_X3_init rfl (zFits_rm (d + 1) 1 73 67 (by decide)) (by decide) (Nat.le_of_ble_eq_true rfl) rfl ((u_3_61 b28).mono ?_)
  rintro _ _ ⟨rfl, rfl⟩
  change Zm _ _ _ _ _ _ 141 _ [.ref (zB X + 61), .ref (zB X + 0)] _
  have b29 := ub_3_61 b28
  refine r_putFP dX9_init_141 kp_RX9_71 (by decide) sh_0 rfl rfl ?_
  have b30 := b29.sP (a := 0) (i := 9) (x := some 61) (by decide)
  refine r_aload_n dX9_init_144 rfl ?_
  refine r_newO (d := d + 1) (q := (RX6, TX6, 5)) dX9_init_145 rfl kn_RX9_75 kin_6 kii_6 sh_67 b30 (zFits_rm (d + 1) 1 73 68 (by decide)) ?_
  have b31 := b30.mono (n' := 68) (by decide)
  refine r_dup dX9_init_148 rfl ?_
  refine r_aload_n dX9_init_149 rfl ?_
  refine r_getP (a := 33) dX9_init_150 kf_RX9_34 (by decide) sh_0 rfl (by rfl) ?_
  refine r_aload_n dX9_init_153 rfl ?_
  refine r_getP (a := 41) dX9_init_154 kf_RX9_38 (by decide) sh_0 rfl (by rfl) ?_
  refine r_callI (d := d + 1) (N := M_X6_init) (As := [.ref (zB X + 33), .ref (zB X + 41)]) (st := [.ref (zB X + 67), .ref (zB X + 0)]) dX9_init_157 mk_X6_init km_RX9_77 kd_X6_init rfl (zFits_rm (d + 1) 1 73 71 (by decide)) (by decide) (Nat.le_of_ble_eq_true rfl) rfl ((u_6_67 b31).mono ?_)
  rintro _ _ ⟨rfl, rfl⟩
  change Zm _ _ _ _ _ _ 160 _ [.ref (zB X + 67), .ref (zB X + 0)] _
  have b32 := ub_6_67 b31
  refine r_putFP dX9_init_160 kp_RX9_80 (by decide) sh_0 rfl rfl ?_
  have b33 := b32.sP (a := 0) (i := 10) (x := some 67) (by decide)
  refine r_aload_n dX9_init_163 rfl ?_
  refine r_newO (d := d + 1) (q := (RX2, TX2, 4)) dX9_init_164 rfl kn_RX9_84 kin_2 kii_2 sh_71 b33 (zFits_rm (d + 1) 1 73 72 (by decide)) ?_
  have b34 := b33.mono (n' := 72) (by decide)
  refine r_dup dX9_init_167 rfl ?_
  refine r_callI (d := d + 1) (N := M_X2_init) (As := []) (st := [.ref (zB X + 71), .ref (zB X + 0)]) dX9_init_168 mk_X2_init km_RX9_86 kd_X2_init rfl (zFits_rm (d + 1) 1 73 72 (by decide)) (by decide) (Nat.le_of_ble_eq_true rfl) rfl ((u_2_71 b34).mono ?_)
  rintro _ _ ⟨rfl, rfl⟩
  change Zm _ _ _ _ _ _ 171 _ [.ref (zB X + 71), .ref (zB X + 0)] _
  have b35 := ub_2_71 b34
  refine r_putFP dX9_init_171 kp_RX9_87 (by decide) sh_0 rfl rfl ?_
  have b36 := b35.sP (a := 0) (i := 11) (x := some 71) (by decide)
  refine r_aload_n dX9_init_174 rfl ?_
  refine r_newO (d := d + 1) (q := (RX2, TX2, 4)) dX9_init_175 rfl kn_RX9_84 kin_2 kii_2 sh_72 b36 (zFits_rm (d + 1) 1 73 73 (by decide)) ?_
  have b37 := b36.mono (n' := 73) (by decide)
  refine r_dup dX9_init_178 rfl ?_
  refine r_callI (d := d + 1) (N := M_X2_init) (As := []) (st := [.ref (zB X + 72), .ref (zB X + 0)]) dX9_init_179 mk_X2_init km_RX9_86 kd_X2_init rfl (zFits_rm (d + 1) 1 73 73 (by decide)) (by decide) (Nat.le_of_ble_eq_true rfl) rfl ((u_2_72 b37).mono ?_)
  rintro _ _ ⟨rfl, rfl⟩
  change Zm _ _ _ _ _ _ 182 _ [.ref (zB X + 72), .ref (zB X + 0)] _
  have b38 := ub_2_72 b37
  refine r_putFP dX9_init_182 kp_RX9_91 (by decide) sh_0 rfl rfl ?_
  have b39 := b38.sP (a := 0) (i := 12) (x := some 72) (by decide)
  refine r_aload_n dX9_init_185 rfl ?_
  refine r_iconst dX9_init_186 ?_
  refine r_putI dX9_init_187 kf_RX9_94 (by decide) sh_0 rfl (Or.inl rfl) ?_
  have b40 := b39.sI (a := 0) (i := 13) (x := 1) (by decide)
  refine r_aload_n dX9_init_190 rfl ?_
  refine r_bipush dX9_init_191 rfl ?_
  refine r_iconst dX9_init_193 ?_
  refine n_callV (d := d + 1) (N := M_X9_startGame) (As := [iV 9, iV 0]) (st := []) dX9_init_194 mk_X9_startGame km_RX9_98 kd_X9_startGame rfl (by decide) sh_0 (q := (RX9, TX9, 14)) rfl rfl (zFits_rm (d + 1) 1 73 73 (by decide)) (Nat.le_of_ble_eq_true rfl) rfl hok h ?_
  rintro _ σ1 k1 ⟨rfl, h1⟩
  exact r_return dX9_init_197 rfl ⟨rfl, k1, h1⟩
theorem ub_10_73 {X : ZX} {d : Nat} {σ : ZSto} {P : ZSto → Prop} (b0 : Blk 74 σ) (hok : ZOk 104 (U_10_73 σ)) (h : ZkV X M_X10_empties d 104 [.ref (zB X + 73), iV 0, iV 9, iV 0] (U_10_73 σ) (fun σ1 => ZkV X M_X10_opens d 104 [.ref (zB X + 73), iV 0] σ1 P)) : Zc X M_X10_init (d + 1) 74 104 [.ref (zB X + 73)] σ (fun r σ' => r = none ∧ ZOk 104 σ' ∧ P σ') := by
  refine zc_of (ls := [some (.ref (zB X + 73))]) pl_RX10 (Nat.le_of_ble_eq_true rfl) rfl ?_
  refine r_aload_n dX10_init_0 rfl ?_
  refine r_objInit (d := d) dX10_init_1 ko_RX10 koi koc (zFits_rm d 74 104 74 (by decide)) (Nat.le_of_ble_eq_true rfl) ?_
  refine r_aload_n dX10_init_4 rfl ?_
  refine r_sipush dX10_init_5 rfl ?_
  refine r_newA (d := d) (len := 500) (ty := .int) dX10_init_8 rfl (Or.inl rfl) kar_int sh_74 rfl b0 (zFits_rm d 74 104 75 (by decide)) ?_
  have b1 := b0.mono (n' := 75) (by decide)
  refine r_putFP dX10_init_10 kp_RX10_7 (by decide) sh_73 rfl rfl ?_
  have b2 := b1.sP (a := 73) (i := 0) (x := some 74) (by decide)
  refine r_aload_n dX10_init_13 rfl ?_
  refine r_sipush dX10_init_14 rfl ?_
  refine r_newA (d := d) (len := 500) (ty := .int) dX10_init_17 rfl (Or.inl rfl) kar_int sh_75 rfl b2 (zFits_rm d 74 104 76 (by decide)) ?_
  have b3 := b2.mono (n' := 76) (by decide)
  refine r_putFP dX10_init_19 kp_RX10_13 (by decide) sh_73 rfl rfl ?_
  have b4 := b3.sP (a := 73) (i := 1) (x := some 75) (by decide)
  refine r_aload_n dX10_init_22 rfl ?_
  refine r_sipush dX10_init_23 rfl ?_
  refine r_newA (d := d) (len := 500) (ty := .int) dX10_init_26 rfl (Or.inl rfl) kar_int sh_76 rfl b4 (zFits_rm d 74 104 77 (by decide)) ?_
  have b5 := b4.mono (n' := 77) (by decide)
  refine r_putFP dX10_init_28 kp_RX10_16 (by decide) sh_73 rfl rfl ?_
  have b6 := b5.sP (a := 73) (i := 2) (x := some 76) (by decide)
  refine r_aload_n dX10_init_31 rfl ?_
  refine r_sipush dX10_init_32 rfl ?_
  refine r_newA (d := d) (len := 500) (ty := .int) dX10_init_35 rfl (Or.inl rfl) kar_int sh_77 rfl b6 (zFits_rm d 74 104 78 (by decide)) ?_
  have b7 := b6.mono (n' := 78) (by decide)
  refine r_putFP dX10_init_37 kp_RX10_19 (by decide) sh_73 rfl rfl ?_
  have b8 := b7.sP (a := 73) (i := 3) (x := some 77) (by decide)
  refine r_aload_n dX10_init_40 rfl ?_
  refine r_sipush dX10_init_41 rfl ?_
  refine r_newA (d := d) (len := 500) (ty := .int) dX10_init_44 rfl (Or.inl rfl) kar_int sh_78 rfl b8 (zFits_rm d 74 104 79 (by decide)) ?_
  have b9 := b8.mono (n' := 79) (by decide)
  refine r_putFP dX10_init_46 kp_RX10_22 (by decide) sh_73 rfl rfl ?_
  have b10 := b9.sP (a := 73) (i := 4) (x := some 78) (by decide)
  refine r_aload_n dX10_init_49 rfl ?_
  refine r_ldc (x := 40500) dX10_init_50 kc_RX10_25 rfl ?_
  refine r_newA (d := d) (len := 40500) (ty := .byte) dX10_init_52 rfl (Or.inr (Or.inl rfl)) kar_byte sh_79 rfl b10 (zFits_rm d 74 104 80 (by decide)) ?_
  have b11 := b10.mono (n' := 80) (by decide)
  refine r_putFP dX10_init_54 kp_RX10_26 (by decide) sh_73 rfl rfl ?_
  have b12 := b11.sP (a := 73) (i := 5) (x := some 79) (by decide)
  refine r_aload_n dX10_init_57 rfl ?_
  refine r_ldc (x := 40500) dX10_init_58 kc_RX10_25 rfl ?_
  refine r_newA (d := d) (len := 40500) (ty := .byte) dX10_init_60 rfl (Or.inr (Or.inl rfl)) kar_byte sh_80 rfl b12 (zFits_rm d 74 104 81 (by decide)) ?_
  have b13 := b12.mono (n' := 81) (by decide)
  refine r_putFP dX10_init_62 kp_RX10_30 (by decide) sh_73 rfl rfl ?_
  have b14 := b13.sP (a := 73) (i := 6) (x := some 80) (by decide)
  refine r_aload_n dX10_init_65 rfl ?_
  refine r_iconst dX10_init_66 ?_
  refine r_newA (d := d) (len := 2) (ty := .int) dX10_init_67 rfl (Or.inl rfl) kar_int sh_81 rfl b14 (zFits_rm d 74 104 82 (by decide)) ?_
  have b15 := b14.mono (n' := 82) (by decide)
  refine r_putFP dX10_init_69 kp_RX10_33 (by decide) sh_73 rfl rfl ?_
  have b16 := b15.sP (a := 73) (i := 7) (x := some 81) (by decide)
  refine r_aload_n dX10_init_72 rfl ?_
  refine r_iconst dX10_init_73 ?_
  refine r_newA (d := d) (len := 2) (ty := .int) dX10_init_74 rfl (Or.inl rfl) kar_int sh_82 rfl b16 (zFits_rm d 74 104 83 (by decide)) ?_
  have b17 := b16.mono (n' := 83) (by decide)
  refine r_putFP dX10_init_76 kp_RX10_36 (by decide) sh_73 rfl rfl ?_
  have b18 := b17.sP (a := 73) (i := 8) (x := some 82) (by decide)
  refine r_aload_n dX10_init_79 rfl ?_
  refine r_iconst dX10_init_80 ?_
  refine r_newA (d := d) (len := 2) (ty := .int) dX10_init_81 rfl (Or.inl rfl) kar_int sh_83 rfl b18 (zFits_rm d 74 104 84 (by decide)) ?_
  have b19 := b18.mono (n' := 84) (by decide)
  refine r_putFP dX10_init_83 kp_RX10_39 (by decide) sh_73 rfl rfl ?_
  have b20 := b19.sP (a := 73) (i := 9) (x := some 83) (by decide)
  refine r_aload_n dX10_init_86 rfl ?_
  refine r_iconst dX10_init_87 ?_
  refine r_putI dX10_init_88 kf_RX10_42 (by decide) sh_73 rfl (Or.inl rfl) ?_
  have b21 := b20.sI (a := 73) (i := 12) (x := 1) (by decide)
  refine r_aload_n dX10_init_91 rfl ?_
  refine r_bipush dX10_init_92 rfl ?_
  refine r_newA (d := d) (len := 81) (ty := .byte) dX10_init_94 rfl (Or.inr (Or.inl rfl)) kar_byte sh_84 rfl b21 (zFits_rm d 74 104 85 (by decide)) ?_
  have b22 := b21.mono (n' := 85) (by decide)
  refine r_putFP dX10_init_96 kp_RX10_46 (by decide) sh_73 rfl rfl ?_
  have b23 := b22.sP (a := 73) (i := 14) (x := some 84) (by decide)
  refine r_aload_n dX10_init_99 rfl ?_
  refine r_bipush dX10_init_100 rfl ?_
  refine r_newA (d := d) (len := 81) (ty := .boolean) dX10_init_102 rfl (Or.inr (Or.inr (Or.inl rfl))) kar_boolean sh_85 rfl b23 (zFits_rm d 74 104 86 (by decide)) ?_
  have b24 := b23.mono (n' := 86) (by decide)
  refine r_putFP dX10_init_104 kp_RX10_49 (by decide) sh_73 rfl rfl ?_
  have b25 := b24.sP (a := 73) (i := 15) (x := some 85) (by decide)
  refine r_aload_n dX10_init_107 rfl ?_
  refine r_bipush dX10_init_108 rfl ?_
  refine r_newA (d := d) (len := 81) (ty := .boolean) dX10_init_110 rfl (Or.inr (Or.inr (Or.inl rfl))) kar_boolean sh_86 rfl b25 (zFits_rm d 74 104 87 (by decide)) ?_
  have b26 := b25.mono (n' := 87) (by decide)
  refine r_putFP dX10_init_112 kp_RX10_53 (by decide) sh_73 rfl rfl ?_
  have b27 := b26.sP (a := 73) (i := 16) (x := some 86) (by decide)
  refine r_aload_n dX10_init_115 rfl ?_
  refine r_bipush dX10_init_116 rfl ?_
  refine r_newA (d := d) (len := 81) (ty := .int) dX10_init_118 rfl (Or.inl rfl) kar_int sh_87 rfl b27 (zFits_rm d 74 104 88 (by decide)) ?_
  have b28 := b27.mono (n' := 88) (by decide)
  refine r_putFP dX10_init_120 kp_RX10_56 (by decide) sh_73 rfl rfl ?_
  have b29 := b28.sP (a := 73) (i := 17) (x := some 87) (by decide)
  refine r_aload_n dX10_init_123 rfl ?_
  refine r_sipush dX10_init_124 rfl ?_
  refine r_newA (d := d) (len := 1500) (ty := .byte) dX10_init_127 rfl (Or.inr (Or.inl rfl)) kar_byte sh_88 rfl b29 (zFits_rm d 74 104 89 (by decide)) ?_
  have b30 := b29.mono (n' := 89) (by decide)
  refine r_putFP dX10_init_129 kp_RX10_59 (by decide) sh_73 rfl rfl ?_
  have b31 := b30.sP (a := 73) (i := 19) (x := some 88) (by decide)
  refine r_aload_n dX10_init_132 rfl ?_
  refine r_iconst dX10_init_133 ?_
  refine r_putI dX10_init_134 kf_RX10_62 (by decide) sh_73 rfl (Or.inl rfl) ?_
  have b32 := b31.sI (a := 73) (i := 23) (x := (-1)) (by decide)
  refine r_aload_n dX10_init_137 rfl ?_
  refine r_sipush dX10_init_138 rfl ?_
  refine r_newA (d := d) (len := 1500) (ty := .int) dX10_init_141 rfl (Or.inl rfl) kar_int sh_89 rfl b32 (zFits_rm d 74 104 90 (by decide)) ?_
  have b33 := b32.mono (n' := 90) (by decide)
  refine r_putFP dX10_init_143 kp_RX10_65 (by decide) sh_73 rfl rfl ?_
  have b34 := b33.sP (a := 73) (i := 25) (x := some 89) (by decide)
  refine r_aload_n dX10_init_146 rfl ?_
  refine r_sipush dX10_init_147 rfl ?_
  refine r_newA (d := d) (len := 9000) (ty := .byte) dX10_init_150 rfl (Or.inr (Or.inl rfl)) kar_byte sh_90 rfl b34 (zFits_rm d 74 104 91 (by decide)) ?_
  have b35 := b34.mono (n' := 91) (by decide)
  refine r_putFP dX10_init_152 kp_RX10_68 (by decide) sh_73 rfl rfl ?_
  have b36 := b35.sP (a := 73) (i := 30) (x := some 90) (by decide)
  refine r_aload_n dX10_init_155 rfl ?_
  refine r_sipush dX10_init_156 rfl ?_
  refine r_newA (d := d) (len := 250) (ty := .int) dX10_init_159 rfl (Or.inl rfl) kar_int sh_91 rfl b36 (zFits_rm d 74 104 92 (by decide)) ?_
  have b37 := b36.mono (n' := 92) (by decide)
  refine r_putFP dX10_init_161 kp_RX10_71 (by decide) sh_73 rfl rfl ?_
  have b38 := b37.sP (a := 73) (i := 32) (x := some 91) (by decide)
  refine r_aload_n dX10_init_164 rfl ?_
  refine r_bipush dX10_init_165 rfl ?_
  refine r_newA (d := d) (len := 81) (ty := .boolean) dX10_init_167 rfl (Or.inr (Or.inr (Or.inl rfl))) kar_boolean sh_92 rfl b38 (zFits_rm d 74 104 93 (by decide)) ?_
  have b39 := b38.mono (n' := 93) (by decide)
  refine r_putFP dX10_init_169 kp_RX10_74 (by decide) sh_73 rfl rfl ?_
  have b40 := b39.sP (a := 73) (i := 33) (x := some 92) (by decide)
  refine r_aload_n dX10_init_172 rfl ?_
  refine r_bipush dX10_init_173 rfl ?_
  refine r_newA (d := d) (len := 81) (ty := .int) dX10_init_175 rfl (Or.inl rfl) kar_int sh_93 rfl b40 (zFits_rm d 74 104 94 (by decide)) ?_
  have b41 := b40.mono (n' := 94) (by decide)
  refine r_putFP dX10_init_177 kp_RX10_77 (by decide) sh_73 rfl rfl ?_
  have b42 := b41.sP (a := 73) (i := 34) (x := some 93) (by decide)
  refine r_aload_n dX10_init_180 rfl ?_
  refine r_bipush dX10_init_181 rfl ?_
  refine r_newA (d := d) (len := 81) (ty := .int) dX10_init_183 rfl (Or.inl rfl) kar_int sh_94 rfl b42 (zFits_rm d 74 104 95 (by decide)) ?_
  have b43 := b42.mono (n' := 95) (by decide)
  refine r_putFP dX10_init_185 kp_RX10_80 (by decide) sh_73 rfl rfl ?_
  have b44 := b43.sP (a := 73) (i := 35) (x := some 94) (by decide)
  refine r_aload_n dX10_init_188 rfl ?_
  refine r_bipush dX10_init_189 rfl ?_
  refine r_newA (d := d) (len := 81) (ty := .boolean) dX10_init_191 rfl (Or.inr (Or.inr (Or.inl rfl))) kar_boolean sh_95 rfl b44 (zFits_rm d 74 104 96 (by decide)) ?_
  have b45 := b44.mono (n' := 96) (by decide)
  refine r_putFP dX10_init_193 kp_RX10_83 (by decide) sh_73 rfl rfl ?_
  have b46 := b45.sP (a := 73) (i := 36) (x := some 95) (by decide)
  refine r_aload_n dX10_init_196 rfl ?_
  refine r_bipush dX10_init_197 rfl ?_
  refine r_newA (d := d) (len := 81) (ty := .boolean) dX10_init_199 rfl (Or.inr (Or.inr (Or.inl rfl))) kar_boolean sh_96 rfl b46 (zFits_rm d 74 104 97 (by decide)) ?_
  have b47 := b46.mono (n' := 97) (by decide)
  refine r_putFP dX10_init_201 kp_RX10_86 (by decide) sh_73 rfl rfl ?_
  have b48 := b47.sP (a := 73) (i := 37) (x := some 96) (by decide)
  refine r_aload_n dX10_init_204 rfl ?_
  refine r_ldc (x := 49000) dX10_init_205 kc_RX10_89 rfl ?_
  refine r_newA (d := d) (len := 49000) (ty := .byte) dX10_init_207 rfl (Or.inr (Or.inl rfl)) kar_byte sh_97 rfl b48 (zFits_rm d 74 104 98 (by decide)) ?_
  have b49 := b48.mono (n' := 98) (by decide)
  refine r_putFP dX10_init_209 kp_RX10_90 (by decide) sh_73 rfl rfl ?_
  have b50 := b49.sP (a := 73) (i := 38) (x := some 97) (by decide)
  refine r_aload_n dX10_init_212 rfl ?_
  refine r_iconst dX10_init_213 ?_
  refine r_putI dX10_init_214 kf_RX10_93 (by decide) sh_73 rfl (Or.inl rfl) ?_
  have b51 := b50.sI (a := 73) (i := 41) (x := (-1)) (by decide)
  refine r_aload_n dX10_init_217 rfl ?_
  refine r_iconst dX10_init_218 ?_
  refine r_putI dX10_init_219 kf_RX10_96 (by decide) sh_73 rfl (Or.inl rfl) ?_
  have b52 := b51.sI (a := 73) (i := 42) (x := (-1)) (by decide)
  refine r_aload_n dX10_init_222 rfl ?_
  refine r_bipush dX10_init_223 rfl ?_
  refine r_newA (d := d) (len := 81) (ty := .boolean) dX10_init_225 rfl (Or.inr (Or.inr (Or.inl rfl))) kar_boolean sh_98 rfl b52 (zFits_rm d 74 104 99 (by decide)) ?_
  have b53 := b52.mono (n' := 99) (by decide)
  refine r_putFP dX10_init_227 kp_RX10_99 (by decide) sh_73 rfl rfl ?_
  have b54 := b53.sP (a := 73) (i := 45) (x := some 98) (by decide)
  refine r_aload_n dX10_init_230 rfl ?_
  refine r_bipush dX10_init_231 rfl ?_
  refine r_newA (d := d) (len := 81) (ty := .int) dX10_init_233 rfl (Or.inl rfl) kar_int sh_99 rfl b54 (zFits_rm d 74 104 100 (by decide)) ?_
  have b55 := b54.mono (n' := 100) (by decide)
  refine r_putFP dX10_init_235 kp_RX10_102 (by decide) sh_73 rfl rfl ?_
  have b56 := b55.sP (a := 73) (i := 46) (x := some 99) (by decide)
  refine r_aload_n dX10_init_238 rfl ?_
  refine r_bipush dX10_init_239 rfl ?_
  refine r_newA (d := d) (len := 81) (ty := .boolean) dX10_init_241 rfl (Or.inr (Or.inr (Or.inl rfl))) kar_boolean sh_100 rfl b56 (zFits_rm d 74 104 101 (by decide)) ?_
  have b57 := b56.mono (n' := 101) (by decide)
  refine r_putFP dX10_init_243 kp_RX10_105 (by decide) sh_73 rfl rfl ?_
  have b58 := b57.sP (a := 73) (i := 47) (x := some 100) (by decide)
  refine r_aload_n dX10_init_246 rfl ?_
  refine r_iconst dX10_init_247 ?_
  refine r_newA (d := d) (len := 3) (ty := .int) dX10_init_248 rfl (Or.inl rfl) kar_int sh_101 rfl b58 (zFits_rm d 74 104 102 (by decide)) ?_
  have b59 := b58.mono (n' := 102) (by decide)
  refine r_putFP dX10_init_250 kp_RX10_108 (by decide) sh_73 rfl rfl ?_
  have b60 := b59.sP (a := 73) (i := 48) (x := some 101) (by decide)
  refine r_aload_n dX10_init_253 rfl ?_
  refine r_iconst dX10_init_254 ?_
  refine r_newA (d := d) (len := 3) (ty := .int) dX10_init_255 rfl (Or.inl rfl) kar_int sh_102 rfl b60 (zFits_rm d 74 104 103 (by decide)) ?_
  have b61 := b60.mono (n' := 103) (by decide)
  refine r_putFP dX10_init_257 kp_RX10_111 (by decide) sh_73 rfl rfl ?_
  have b62 := b61.sP (a := 73) (i := 49) (x := some 102) (by decide)
  refine r_aload_n dX10_init_260 rfl ?_
  refine r_iconst dX10_init_261 ?_
  refine r_newA (d := d) (len := 3) (ty := .boolean) dX10_init_262 rfl (Or.inr (Or.inr (Or.inl rfl))) kar_boolean sh_103 rfl b62 (zFits_rm d 74 104 104 (by decide)) ?_
  have b63 := b62.mono (n' := 104) (by decide)
  refine r_putFP dX10_init_264 kp_RX10_114 (by decide) sh_73 rfl rfl ?_
  have b64 := b63.sP (a := 73) (i := 50) (x := some 103) (by decide)
  refine r_aload_n dX10_init_267 rfl ?_
  refine r_iconst dX10_init_268 ?_
  refine r_bipush dX10_init_269 rfl ?_
  refine r_iconst dX10_init_271 ?_
  refine n_callV (d := d) (N := M_X10_empties) (As := [iV 0, iV 9, iV 0]) (st := []) dX10_init_272 mk_X10_empties km_RX10_117 kd_X10_empties rfl (by decide) sh_73 (q := (RX10, TX10, 52)) rfl rfl (zFits_rm d 74 104 104 (by decide)) (Nat.le_of_ble_eq_true rfl) rfl hok h ?_
  rintro _ σ1 k1 ⟨rfl, h1⟩
  change Zm _ _ _ _ _ _ 275 _ [] _
  refine r_aload_n dX10_init_275 rfl ?_
  refine r_iconst dX10_init_276 ?_
  refine n_callV (d := d) (N := M_X10_opens) (As := [iV 0]) (st := []) dX10_init_277 mk_X10_opens km_RX10_121 kd_X10_opens rfl (by decide) sh_73 (q := (RX10, TX10, 52)) rfl rfl (zFits_rm d 74 104 104 (by decide)) (Nat.le_of_ble_eq_true rfl) rfl k1 h1 ?_
  rintro _ σ2 k2 ⟨rfl, h2⟩
  exact r_return dX10_init_280 rfl ⟨rfl, k2, h2⟩
