theorem dX5_init_0 : decode cX5_init 0 = .ok (.aload_n 0, 1) := by decide +kernel
theorem dX5_init_1 : decode cX5_init 1 = .ok (.invokespecial 3, 3) := by decide +kernel
theorem dX5_init_4 : decode cX5_init 4 = .ok (.aload_n 0, 1) := by decide +kernel
theorem dX5_init_5 : decode cX5_init 5 = .ok (.bipush 16, 2) := by decide +kernel
theorem dX5_init_7 : decode cX5_init 7 = .ok (.newarray .int, 2) := by decide +kernel
theorem dX5_init_9 : decode cX5_init 9 = .ok (.putfield 9, 3) := by decide +kernel
theorem dX5_init_12 : decode cX5_init 12 = .ok (.aload_n 0, 1) := by decide +kernel
theorem dX5_init_13 : decode cX5_init 13 = .ok (.bipush 16, 2) := by decide +kernel
theorem dX5_init_15 : decode cX5_init 15 = .ok (.newarray .int, 2) := by decide +kernel
theorem dX5_init_17 : decode cX5_init 17 = .ok (.putfield 15, 3) := by decide +kernel
theorem dX5_init_20 : decode cX5_init 20 = .ok (.aload_n 0, 1) := by decide +kernel
theorem dX5_init_21 : decode cX5_init 21 = .ok (.bipush 16, 2) := by decide +kernel
theorem dX5_init_23 : decode cX5_init 23 = .ok (.newarray .int, 2) := by decide +kernel
theorem dX5_init_25 : decode cX5_init 25 = .ok (.putfield 18, 3) := by decide +kernel
theorem dX5_init_28 : decode cX5_init 28 = .ok (.aload_n 0, 1) := by decide +kernel
theorem dX5_init_29 : decode cX5_init 29 = .ok (.bipush 16, 2) := by decide +kernel
theorem dX5_init_31 : decode cX5_init 31 = .ok (.newarray .int, 2) := by decide +kernel
theorem dX5_init_33 : decode cX5_init 33 = .ok (.putfield 21, 3) := by decide +kernel
theorem dX5_init_36 : decode cX5_init 36 = .ok (.aload_n 0, 1) := by decide +kernel
theorem dX5_init_37 : decode cX5_init 37 = .ok (.bipush 16, 2) := by decide +kernel
theorem dX5_init_39 : decode cX5_init 39 = .ok (.newarray .int, 2) := by decide +kernel
theorem dX5_init_41 : decode cX5_init 41 = .ok (.putfield 24, 3) := by decide +kernel
theorem dX5_init_44 : decode cX5_init 44 = .ok (.return_, 1) := by decide +kernel
theorem dX2_init_0 : decode cX2_init 0 = .ok (.aload_n 0, 1) := by decide +kernel
theorem dX2_init_1 : decode cX2_init 1 = .ok (.invokespecial 3, 3) := by decide +kernel
theorem dX2_init_4 : decode cX2_init 4 = .ok (.aload_n 0, 1) := by decide +kernel
theorem dX2_init_5 : decode cX2_init 5 = .ok (.new 9, 3) := by decide +kernel
theorem dX2_init_8 : decode cX2_init 8 = .ok (.dup, 1) := by decide +kernel
theorem dX2_init_9 : decode cX2_init 9 = .ok (.invokespecial 11, 3) := by decide +kernel
theorem dX2_init_12 : decode cX2_init 12 = .ok (.putfield 12, 3) := by decide +kernel
theorem dX2_init_15 : decode cX2_init 15 = .ok (.aload_n 0, 1) := by decide +kernel
theorem dX2_init_16 : decode cX2_init 16 = .ok (.bipush 20, 2) := by decide +kernel
theorem dX2_init_18 : decode cX2_init 18 = .ok (.newarray .int, 2) := by decide +kernel
theorem dX2_init_20 : decode cX2_init 20 = .ok (.putfield 18, 3) := by decide +kernel
theorem dX2_init_23 : decode cX2_init 23 = .ok (.aload_n 0, 1) := by decide +kernel
theorem dX2_init_24 : decode cX2_init 24 = .ok (.bipush 20, 2) := by decide +kernel
theorem dX2_init_26 : decode cX2_init 26 = .ok (.newarray .int, 2) := by decide +kernel
theorem dX2_init_28 : decode cX2_init 28 = .ok (.putfield 22, 3) := by decide +kernel
theorem dX2_init_31 : decode cX2_init 31 = .ok (.aload_n 0, 1) := by decide +kernel
theorem dX2_init_32 : decode cX2_init 32 = .ok (.bipush 20, 2) := by decide +kernel
theorem dX2_init_34 : decode cX2_init 34 = .ok (.newarray .int, 2) := by decide +kernel
theorem dX2_init_36 : decode cX2_init 36 = .ok (.putfield 25, 3) := by decide +kernel
theorem dX2_init_39 : decode cX2_init 39 = .ok (.aload_n 0, 1) := by decide +kernel
theorem dX2_init_40 : decode cX2_init 40 = .ok (.bipush 20, 2) := by decide +kernel
theorem dX2_init_42 : decode cX2_init 42 = .ok (.newarray .int, 2) := by decide +kernel
theorem dX2_init_44 : decode cX2_init 44 = .ok (.putfield 28, 3) := by decide +kernel
theorem dX2_init_47 : decode cX2_init 47 = .ok (.aload_n 0, 1) := by decide +kernel
theorem dX2_init_48 : decode cX2_init 48 = .ok (.bipush 20, 2) := by decide +kernel
theorem dX2_init_50 : decode cX2_init 50 = .ok (.newarray .int, 2) := by decide +kernel
theorem dX2_init_52 : decode cX2_init 52 = .ok (.putfield 31, 3) := by decide +kernel
theorem dX2_init_55 : decode cX2_init 55 = .ok (.aload_n 0, 1) := by decide +kernel
theorem dX2_init_56 : decode cX2_init 56 = .ok (.bipush 17, 2) := by decide +kernel
theorem dX2_init_58 : decode cX2_init 58 = .ok (.newarray .int, 2) := by decide +kernel
theorem dX2_init_60 : decode cX2_init 60 = .ok (.putfield 34, 3) := by decide +kernel
theorem dX2_init_63 : decode cX2_init 63 = .ok (.aload_n 0, 1) := by decide +kernel
theorem dX2_init_64 : decode cX2_init 64 = .ok (.bipush 16, 2) := by decide +kernel
theorem dX2_init_66 : decode cX2_init 66 = .ok (.newarray .int, 2) := by decide +kernel
theorem dX2_init_68 : decode cX2_init 68 = .ok (.putfield 37, 3) := by decide +kernel
theorem dX2_init_71 : decode cX2_init 71 = .ok (.return_, 1) := by decide +kernel
theorem dX4_init_0 : decode cX4_init 0 = .ok (.aload_n 0, 1) := by decide +kernel
theorem dX4_init_1 : decode cX4_init 1 = .ok (.invokespecial 3, 3) := by decide +kernel
theorem dX4_init_4 : decode cX4_init 4 = .ok (.aload_n 0, 1) := by decide +kernel
theorem dX4_init_5 : decode cX4_init 5 = .ok (.sipush 1200, 3) := by decide +kernel
theorem dX4_init_8 : decode cX4_init 8 = .ok (.newarray .byte, 2) := by decide +kernel
theorem dX4_init_10 : decode cX4_init 10 = .ok (.putfield 9, 3) := by decide +kernel
theorem dX4_init_13 : decode cX4_init 13 = .ok (.return_, 1) := by decide +kernel
theorem dX6_init_0 : decode cX6_init 0 = .ok (.aload_n 0, 1) := by decide +kernel
theorem dX6_init_1 : decode cX6_init 1 = .ok (.invokespecial 3, 3) := by decide +kernel
theorem dX6_init_4 : decode cX6_init 4 = .ok (.aload_n 0, 1) := by decide +kernel
theorem dX6_init_5 : decode cX6_init 5 = .ok (.bipush 16, 2) := by decide +kernel
theorem dX6_init_7 : decode cX6_init 7 = .ok (.newarray .int, 2) := by decide +kernel
theorem dX6_init_9 : decode cX6_init 9 = .ok (.putfield 9, 3) := by decide +kernel
theorem dX6_init_12 : decode cX6_init 12 = .ok (.aload_n 0, 1) := by decide +kernel
theorem dX6_init_13 : decode cX6_init 13 = .ok (.bipush 20, 2) := by decide +kernel
theorem dX6_init_15 : decode cX6_init 15 = .ok (.newarray .int, 2) := by decide +kernel
theorem dX6_init_17 : decode cX6_init 17 = .ok (.putfield 15, 3) := by decide +kernel
theorem dX6_init_20 : decode cX6_init 20 = .ok (.return_, 1) := by decide +kernel
theorem dX0_init_0 : decode cX0_init 0 = .ok (.aload_n 0, 1) := by decide +kernel
theorem dX0_init_1 : decode cX0_init 1 = .ok (.invokespecial 3, 3) := by decide +kernel
theorem dX0_init_4 : decode cX0_init 4 = .ok (.aload_n 0, 1) := by decide +kernel
theorem dX0_init_5 : decode cX0_init 5 = .ok (.bipush 16, 2) := by decide +kernel
theorem dX0_init_7 : decode cX0_init 7 = .ok (.newarray .long, 2) := by decide +kernel
theorem dX0_init_9 : decode cX0_init 9 = .ok (.putfield 9, 3) := by decide +kernel
theorem dX0_init_12 : decode cX0_init 12 = .ok (.aload_n 0, 1) := by decide +kernel
theorem dX0_init_13 : decode cX0_init 13 = .ok (.bipush 16, 2) := by decide +kernel
theorem dX0_init_15 : decode cX0_init 15 = .ok (.newarray .long, 2) := by decide +kernel
theorem dX0_init_17 : decode cX0_init 17 = .ok (.putfield 15, 3) := by decide +kernel
theorem dX0_init_20 : decode cX0_init 20 = .ok (.aload_n 0, 1) := by decide +kernel
theorem dX0_init_21 : decode cX0_init 21 = .ok (.bipush 16, 2) := by decide +kernel
theorem dX0_init_23 : decode cX0_init 23 = .ok (.newarray .int, 2) := by decide +kernel
theorem dX0_init_25 : decode cX0_init 25 = .ok (.putfield 18, 3) := by decide +kernel
theorem dX0_init_28 : decode cX0_init 28 = .ok (.aload_n 0, 1) := by decide +kernel
theorem dX0_init_29 : decode cX0_init 29 = .ok (.bipush 17, 2) := by decide +kernel
theorem dX0_init_31 : decode cX0_init 31 = .ok (.newarray .int, 2) := by decide +kernel
theorem dX0_init_33 : decode cX0_init 33 = .ok (.putfield 22, 3) := by decide +kernel
theorem dX0_init_36 : decode cX0_init 36 = .ok (.aload_n 0, 1) := by decide +kernel
theorem dX0_init_37 : decode cX0_init 37 = .ok (.bipush 40, 2) := by decide +kernel
theorem dX0_init_39 : decode cX0_init 39 = .ok (.newarray .int, 2) := by decide +kernel
theorem dX0_init_41 : decode cX0_init 41 = .ok (.putfield 25, 3) := by decide +kernel
theorem dX0_init_44 : decode cX0_init 44 = .ok (.aload_n 0, 1) := by decide +kernel
theorem dX0_init_45 : decode cX0_init 45 = .ok (.bipush 40, 2) := by decide +kernel
theorem dX0_init_47 : decode cX0_init 47 = .ok (.newarray .int, 2) := by decide +kernel
theorem dX0_init_49 : decode cX0_init 49 = .ok (.putfield 28, 3) := by decide +kernel
theorem dX0_init_52 : decode cX0_init 52 = .ok (.aload_n 0, 1) := by decide +kernel
theorem dX0_init_53 : decode cX0_init 53 = .ok (.bipush 40, 2) := by decide +kernel
theorem dX0_init_55 : decode cX0_init 55 = .ok (.newarray .int, 2) := by decide +kernel
theorem dX0_init_57 : decode cX0_init 57 = .ok (.putfield 31, 3) := by decide +kernel
theorem dX0_init_60 : decode cX0_init 60 = .ok (.return_, 1) := by decide +kernel
theorem dX1_init_0 : decode cX1_init 0 = .ok (.aload_n 0, 1) := by decide +kernel
theorem dX1_init_1 : decode cX1_init 1 = .ok (.invokespecial 3, 3) := by decide +kernel
theorem dX1_init_4 : decode cX1_init 4 = .ok (.aload_n 0, 1) := by decide +kernel
theorem dX1_init_5 : decode cX1_init 5 = .ok (.bipush 8, 2) := by decide +kernel
theorem dX1_init_7 : decode cX1_init 7 = .ok (.newarray .int, 2) := by decide +kernel
theorem dX1_init_9 : decode cX1_init 9 = .ok (.putfield 9, 3) := by decide +kernel
theorem dX1_init_12 : decode cX1_init 12 = .ok (.aload_n 0, 1) := by decide +kernel
theorem dX1_init_13 : decode cX1_init 13 = .ok (.bipush 8, 2) := by decide +kernel
theorem dX1_init_15 : decode cX1_init 15 = .ok (.newarray .int, 2) := by decide +kernel
theorem dX1_init_17 : decode cX1_init 17 = .ok (.putfield 15, 3) := by decide +kernel
theorem dX1_init_20 : decode cX1_init 20 = .ok (.aload_n 0, 1) := by decide +kernel
theorem dX1_init_21 : decode cX1_init 21 = .ok (.bipush 8, 2) := by decide +kernel
theorem dX1_init_23 : decode cX1_init 23 = .ok (.newarray .int, 2) := by decide +kernel
theorem dX1_init_25 : decode cX1_init 25 = .ok (.putfield 18, 3) := by decide +kernel
theorem dX1_init_28 : decode cX1_init 28 = .ok (.aload_n 0, 1) := by decide +kernel
theorem dX1_init_29 : decode cX1_init 29 = .ok (.bipush 8, 2) := by decide +kernel
theorem dX1_init_31 : decode cX1_init 31 = .ok (.newarray .boolean, 2) := by decide +kernel
theorem dX1_init_33 : decode cX1_init 33 = .ok (.putfield 21, 3) := by decide +kernel
theorem dX1_init_36 : decode cX1_init 36 = .ok (.aload_n 0, 1) := by decide +kernel
theorem dX1_init_37 : decode cX1_init 37 = .ok (.sipush 128, 3) := by decide +kernel
theorem dX1_init_40 : decode cX1_init 40 = .ok (.newarray .long, 2) := by decide +kernel
theorem dX1_init_42 : decode cX1_init 42 = .ok (.putfield 25, 3) := by decide +kernel
theorem dX1_init_45 : decode cX1_init 45 = .ok (.return_, 1) := by decide +kernel
theorem dX3_init_0 : decode cX3_init 0 = .ok (.aload_n 0, 1) := by decide +kernel
theorem dX3_init_1 : decode cX3_init 1 = .ok (.invokespecial 3, 3) := by decide +kernel
theorem dX3_init_4 : decode cX3_init 4 = .ok (.aload_n 0, 1) := by decide +kernel
theorem dX3_init_5 : decode cX3_init 5 = .ok (.iconst 3, 1) := by decide +kernel
theorem dX3_init_6 : decode cX3_init 6 = .ok (.newarray .int, 2) := by decide +kernel
theorem dX3_init_8 : decode cX3_init 8 = .ok (.putfield 9, 3) := by decide +kernel
theorem dX3_init_11 : decode cX3_init 11 = .ok (.aload_n 0, 1) := by decide +kernel
theorem dX3_init_12 : decode cX3_init 12 = .ok (.iconst 3, 1) := by decide +kernel
theorem dX3_init_13 : decode cX3_init 13 = .ok (.newarray .int, 2) := by decide +kernel
theorem dX3_init_15 : decode cX3_init 15 = .ok (.putfield 15, 3) := by decide +kernel
theorem dX3_init_18 : decode cX3_init 18 = .ok (.aload_n 0, 1) := by decide +kernel
theorem dX3_init_19 : decode cX3_init 19 = .ok (.iconst 3, 1) := by decide +kernel
theorem dX3_init_20 : decode cX3_init 20 = .ok (.newarray .int, 2) := by decide +kernel
theorem dX3_init_22 : decode cX3_init 22 = .ok (.putfield 18, 3) := by decide +kernel
theorem dX3_init_25 : decode cX3_init 25 = .ok (.aload_n 0, 1) := by decide +kernel
theorem dX3_init_26 : decode cX3_init 26 = .ok (.bipush 16, 2) := by decide +kernel
theorem dX3_init_28 : decode cX3_init 28 = .ok (.newarray .int, 2) := by decide +kernel
theorem dX3_init_30 : decode cX3_init 30 = .ok (.putfield 21, 3) := by decide +kernel
theorem dX3_init_33 : decode cX3_init 33 = .ok (.aload_n 0, 1) := by decide +kernel
theorem dX3_init_34 : decode cX3_init 34 = .ok (.bipush 16, 2) := by decide +kernel
theorem dX3_init_36 : decode cX3_init 36 = .ok (.newarray .int, 2) := by decide +kernel
theorem dX3_init_38 : decode cX3_init 38 = .ok (.putfield 24, 3) := by decide +kernel
theorem dX3_init_41 : decode cX3_init 41 = .ok (.aload_n 0, 1) := by decide +kernel
theorem dX3_init_42 : decode cX3_init 42 = .ok (.bipush 20, 2) := by decide +kernel
theorem dX3_init_44 : decode cX3_init 44 = .ok (.newarray .int, 2) := by decide +kernel
theorem dX3_init_46 : decode cX3_init 46 = .ok (.putfield 27, 3) := by decide +kernel
theorem dX3_init_49 : decode cX3_init 49 = .ok (.aload_n 0, 1) := by decide +kernel
theorem dX3_init_50 : decode cX3_init 50 = .ok (.bipush 20, 2) := by decide +kernel
theorem dX3_init_52 : decode cX3_init 52 = .ok (.newarray .int, 2) := by decide +kernel
theorem dX3_init_54 : decode cX3_init 54 = .ok (.putfield 30, 3) := by decide +kernel
theorem dX3_init_57 : decode cX3_init 57 = .ok (.aload_n 0, 1) := by decide +kernel
theorem dX3_init_58 : decode cX3_init 58 = .ok (.bipush 20, 2) := by decide +kernel
theorem dX3_init_60 : decode cX3_init 60 = .ok (.newarray .int, 2) := by decide +kernel
theorem dX3_init_62 : decode cX3_init 62 = .ok (.putfield 33, 3) := by decide +kernel
theorem dX3_init_65 : decode cX3_init 65 = .ok (.aload_n 0, 1) := by decide +kernel
theorem dX3_init_66 : decode cX3_init 66 = .ok (.bipush 20, 2) := by decide +kernel
theorem dX3_init_68 : decode cX3_init 68 = .ok (.newarray .int, 2) := by decide +kernel
theorem dX3_init_70 : decode cX3_init 70 = .ok (.putfield 36, 3) := by decide +kernel
theorem dX3_init_73 : decode cX3_init 73 = .ok (.aload_n 0, 1) := by decide +kernel
theorem dX3_init_74 : decode cX3_init 74 = .ok (.sipush 640, 3) := by decide +kernel
theorem dX3_init_77 : decode cX3_init 77 = .ok (.newarray .int, 2) := by decide +kernel
theorem dX3_init_79 : decode cX3_init 79 = .ok (.putfield 39, 3) := by decide +kernel
theorem dX3_init_82 : decode cX3_init 82 = .ok (.aload_n 0, 1) := by decide +kernel
theorem dX3_init_83 : decode cX3_init 83 = .ok (.bipush 6, 2) := by decide +kernel
theorem dX3_init_85 : decode cX3_init 85 = .ok (.newarray .int, 2) := by decide +kernel
theorem dX3_init_87 : decode cX3_init 87 = .ok (.putfield 42, 3) := by decide +kernel
theorem dX3_init_90 : decode cX3_init 90 = .ok (.aload_n 0, 1) := by decide +kernel
theorem dX3_init_91 : decode cX3_init 91 = .ok (.bipush 48, 2) := by decide +kernel
theorem dX3_init_93 : decode cX3_init 93 = .ok (.newarray .int, 2) := by decide +kernel
theorem dX3_init_95 : decode cX3_init 95 = .ok (.putfield 45, 3) := by decide +kernel
theorem dX3_init_98 : decode cX3_init 98 = .ok (.aload_n 0, 1) := by decide +kernel
theorem dX3_init_99 : decode cX3_init 99 = .ok (.invokevirtual 48, 3) := by decide +kernel
theorem dX3_init_102 : decode cX3_init 102 = .ok (.return_, 1) := by decide +kernel
theorem dX7_init_0 : decode cX7_init 0 = .ok (.aload_n 0, 1) := by decide +kernel
theorem dX7_init_1 : decode cX7_init 1 = .ok (.invokespecial 5, 3) := by decide +kernel
theorem dX7_init_4 : decode cX7_init 4 = .ok (.aload_n 0, 1) := by decide +kernel
theorem dX7_init_5 : decode cX7_init 5 = .ok (.new 11, 3) := by decide +kernel
theorem dX7_init_8 : decode cX7_init 8 = .ok (.dup, 1) := by decide +kernel
theorem dX7_init_9 : decode cX7_init 9 = .ok (.invokespecial 13, 3) := by decide +kernel
theorem dX7_init_12 : decode cX7_init 12 = .ok (.putfield 14, 3) := by decide +kernel
theorem dX7_init_15 : decode cX7_init 15 = .ok (.aload_n 0, 1) := by decide +kernel
theorem dX7_init_16 : decode cX7_init 16 = .ok (.new 20, 3) := by decide +kernel
theorem dX7_init_19 : decode cX7_init 19 = .ok (.dup, 1) := by decide +kernel
theorem dX7_init_20 : decode cX7_init 20 = .ok (.invokespecial 22, 3) := by decide +kernel
theorem dX7_init_23 : decode cX7_init 23 = .ok (.putfield 23, 3) := by decide +kernel
theorem dX7_init_26 : decode cX7_init 26 = .ok (.aload_n 0, 1) := by decide +kernel
theorem dX7_init_27 : decode cX7_init 27 = .ok (.new 27, 3) := by decide +kernel
theorem dX7_init_30 : decode cX7_init 30 = .ok (.dup, 1) := by decide +kernel
theorem dX7_init_31 : decode cX7_init 31 = .ok (.invokespecial 29, 3) := by decide +kernel
theorem dX7_init_34 : decode cX7_init 34 = .ok (.putfield 30, 3) := by decide +kernel
theorem dX7_init_37 : decode cX7_init 37 = .ok (.aload_n 0, 1) := by decide +kernel
theorem dX7_init_38 : decode cX7_init 38 = .ok (.new 34, 3) := by decide +kernel
theorem dX7_init_41 : decode cX7_init 41 = .ok (.dup, 1) := by decide +kernel
theorem dX7_init_42 : decode cX7_init 42 = .ok (.invokespecial 36, 3) := by decide +kernel
theorem dX7_init_45 : decode cX7_init 45 = .ok (.putfield 37, 3) := by decide +kernel
theorem dX7_init_48 : decode cX7_init 48 = .ok (.aload_n 0, 1) := by decide +kernel
theorem dX7_init_49 : decode cX7_init 49 = .ok (.new 41, 3) := by decide +kernel
theorem dX7_init_52 : decode cX7_init 52 = .ok (.dup, 1) := by decide +kernel
theorem dX7_init_53 : decode cX7_init 53 = .ok (.invokespecial 43, 3) := by decide +kernel
theorem dX7_init_56 : decode cX7_init 56 = .ok (.putfield 44, 3) := by decide +kernel
theorem dX7_init_59 : decode cX7_init 59 = .ok (.aload_n 0, 1) := by decide +kernel
theorem dX7_init_60 : decode cX7_init 60 = .ok (.new 48, 3) := by decide +kernel
theorem dX7_init_63 : decode cX7_init 63 = .ok (.dup, 1) := by decide +kernel
theorem dX7_init_64 : decode cX7_init 64 = .ok (.invokespecial 50, 3) := by decide +kernel
theorem dX7_init_67 : decode cX7_init 67 = .ok (.putfield 51, 3) := by decide +kernel
theorem dX7_init_70 : decode cX7_init 70 = .ok (.aload_n 0, 1) := by decide +kernel
theorem dX7_init_71 : decode cX7_init 71 = .ok (.new 48, 3) := by decide +kernel
theorem dX7_init_74 : decode cX7_init 74 = .ok (.dup, 1) := by decide +kernel
theorem dX7_init_75 : decode cX7_init 75 = .ok (.invokespecial 50, 3) := by decide +kernel
theorem dX7_init_78 : decode cX7_init 78 = .ok (.putfield 55, 3) := by decide +kernel
theorem dX7_init_81 : decode cX7_init 81 = .ok (.aload_n 0, 1) := by decide +kernel
theorem dX7_init_82 : decode cX7_init 82 = .ok (.iconst (-1), 1) := by decide +kernel
theorem dX7_init_83 : decode cX7_init 83 = .ok (.putfield 58, 3) := by decide +kernel
theorem dX7_init_86 : decode cX7_init 86 = .ok (.return_, 1) := by decide +kernel
theorem dX8_init_0 : decode cX8_init 0 = .ok (.aload_n 0, 1) := by decide +kernel
theorem dX8_init_1 : decode cX8_init 1 = .ok (.invokespecial 1, 3) := by decide +kernel
theorem dX8_init_4 : decode cX8_init 4 = .ok (.aload_n 0, 1) := by decide +kernel
theorem dX8_init_5 : decode cX8_init 5 = .ok (.sipush 703, 3) := by decide +kernel
theorem dX8_init_8 : decode cX8_init 8 = .ok (.newarray .int, 2) := by decide +kernel
theorem dX8_init_10 : decode cX8_init 10 = .ok (.putfield 7, 3) := by decide +kernel
theorem dX8_init_13 : decode cX8_init 13 = .ok (.aload_n 0, 1) := by decide +kernel
theorem dX8_init_14 : decode cX8_init 14 = .ok (.sipush 703, 3) := by decide +kernel
theorem dX8_init_17 : decode cX8_init 17 = .ok (.newarray .int, 2) := by decide +kernel
theorem dX8_init_19 : decode cX8_init 19 = .ok (.putfield 13, 3) := by decide +kernel
theorem dX8_init_22 : decode cX8_init 22 = .ok (.aload_n 0, 1) := by decide +kernel
theorem dX8_init_23 : decode cX8_init 23 = .ok (.sipush 5624, 3) := by decide +kernel
theorem dX8_init_26 : decode cX8_init 26 = .ok (.newarray .int, 2) := by decide +kernel
theorem dX8_init_28 : decode cX8_init 28 = .ok (.putfield 16, 3) := by decide +kernel
theorem dX8_init_31 : decode cX8_init 31 = .ok (.aload_n 0, 1) := by decide +kernel
theorem dX8_init_32 : decode cX8_init 32 = .ok (.bipush 16, 2) := by decide +kernel
theorem dX8_init_34 : decode cX8_init 34 = .ok (.newarray .long, 2) := by decide +kernel
theorem dX8_init_36 : decode cX8_init 36 = .ok (.putfield 19, 3) := by decide +kernel
theorem dX8_init_39 : decode cX8_init 39 = .ok (.aload_n 0, 1) := by decide +kernel
theorem dX8_init_40 : decode cX8_init 40 = .ok (.sipush 128, 3) := by decide +kernel
theorem dX8_init_43 : decode cX8_init 43 = .ok (.newarray .long, 2) := by decide +kernel
theorem dX8_init_45 : decode cX8_init 45 = .ok (.putfield 23, 3) := by decide +kernel
theorem dX8_init_48 : decode cX8_init 48 = .ok (.aload_n 0, 1) := by decide +kernel
theorem dX8_init_49 : decode cX8_init 49 = .ok (.sipush 137, 3) := by decide +kernel
theorem dX8_init_52 : decode cX8_init 52 = .ok (.newarray .int, 2) := by decide +kernel
theorem dX8_init_54 : decode cX8_init 54 = .ok (.putfield 26, 3) := by decide +kernel
theorem dX8_init_57 : decode cX8_init 57 = .ok (.aload_n 0, 1) := by decide +kernel
theorem dX8_init_58 : decode cX8_init 58 = .ok (.sipush 137, 3) := by decide +kernel
theorem dX8_init_61 : decode cX8_init 61 = .ok (.newarray .int, 2) := by decide +kernel
theorem dX8_init_63 : decode cX8_init 63 = .ok (.putfield 29, 3) := by decide +kernel
theorem dX8_init_66 : decode cX8_init 66 = .ok (.aload_n 0, 1) := by decide +kernel
theorem dX8_init_67 : decode cX8_init 67 = .ok (.sipush 1200, 3) := by decide +kernel
theorem dX8_init_70 : decode cX8_init 70 = .ok (.newarray .byte, 2) := by decide +kernel
theorem dX8_init_72 : decode cX8_init 72 = .ok (.putfield 32, 3) := by decide +kernel
theorem dX8_init_75 : decode cX8_init 75 = .ok (.aload_n 0, 1) := by decide +kernel
theorem dX8_init_76 : decode cX8_init 76 = .ok (.iconst (-1), 1) := by decide +kernel
theorem dX8_init_77 : decode cX8_init 77 = .ok (.putfield 36, 3) := by decide +kernel
theorem dX8_init_80 : decode cX8_init 80 = .ok (.aload_n 0, 1) := by decide +kernel
theorem dX8_init_81 : decode cX8_init 81 = .ok (.bipush 16, 2) := by decide +kernel
theorem dX8_init_83 : decode cX8_init 83 = .ok (.newarray .int, 2) := by decide +kernel
theorem dX8_init_85 : decode cX8_init 85 = .ok (.putfield 40, 3) := by decide +kernel
theorem dX8_init_88 : decode cX8_init 88 = .ok (.aload_n 0, 1) := by decide +kernel
theorem dX8_init_89 : decode cX8_init 89 = .ok (.bipush 16, 2) := by decide +kernel
theorem dX8_init_91 : decode cX8_init 91 = .ok (.newarray .int, 2) := by decide +kernel
theorem dX8_init_93 : decode cX8_init 93 = .ok (.putfield 43, 3) := by decide +kernel
theorem dX8_init_96 : decode cX8_init 96 = .ok (.aload_n 0, 1) := by decide +kernel
theorem dX8_init_97 : decode cX8_init 97 = .ok (.bipush 16, 2) := by decide +kernel
theorem dX8_init_99 : decode cX8_init 99 = .ok (.newarray .int, 2) := by decide +kernel
theorem dX8_init_101 : decode cX8_init 101 = .ok (.putfield 46, 3) := by decide +kernel
theorem dX8_init_104 : decode cX8_init 104 = .ok (.aload_n 0, 1) := by decide +kernel
theorem dX8_init_105 : decode cX8_init 105 = .ok (.bipush 16, 2) := by decide +kernel
theorem dX8_init_107 : decode cX8_init 107 = .ok (.newarray .int, 2) := by decide +kernel
theorem dX8_init_109 : decode cX8_init 109 = .ok (.putfield 49, 3) := by decide +kernel
theorem dX8_init_112 : decode cX8_init 112 = .ok (.aload_n 0, 1) := by decide +kernel
theorem dX8_init_113 : decode cX8_init 113 = .ok (.bipush 20, 2) := by decide +kernel
theorem dX8_init_115 : decode cX8_init 115 = .ok (.newarray .int, 2) := by decide +kernel
theorem dX8_init_117 : decode cX8_init 117 = .ok (.putfield 52, 3) := by decide +kernel
theorem dX8_init_120 : decode cX8_init 120 = .ok (.aload_n 0, 1) := by decide +kernel
theorem dX8_init_121 : decode cX8_init 121 = .ok (.bipush 20, 2) := by decide +kernel
theorem dX8_init_123 : decode cX8_init 123 = .ok (.newarray .int, 2) := by decide +kernel
theorem dX8_init_125 : decode cX8_init 125 = .ok (.putfield 55, 3) := by decide +kernel
theorem dX8_init_128 : decode cX8_init 128 = .ok (.aload_n 0, 1) := by decide +kernel
theorem dX8_init_129 : decode cX8_init 129 = .ok (.bipush 20, 2) := by decide +kernel
theorem dX8_init_131 : decode cX8_init 131 = .ok (.newarray .int, 2) := by decide +kernel
theorem dX8_init_133 : decode cX8_init 133 = .ok (.putfield 58, 3) := by decide +kernel
theorem dX8_init_136 : decode cX8_init 136 = .ok (.aload_n 0, 1) := by decide +kernel
theorem dX8_init_137 : decode cX8_init 137 = .ok (.bipush 16, 2) := by decide +kernel
theorem dX8_init_139 : decode cX8_init 139 = .ok (.newarray .long, 2) := by decide +kernel
theorem dX8_init_141 : decode cX8_init 141 = .ok (.putfield 61, 3) := by decide +kernel
theorem dX8_init_144 : decode cX8_init 144 = .ok (.aload_n 0, 1) := by decide +kernel
theorem dX8_init_145 : decode cX8_init 145 = .ok (.getfield 7, 3) := by decide +kernel
theorem dX8_init_148 : decode cX8_init 148 = .ok (.invokestatic 64, 3) := by decide +kernel
theorem dX8_init_151 : decode cX8_init 151 = .ok (.return_, 1) := by decide +kernel
set_option maxHeartbeats 4000000 in
set_option maxRecDepth 100000 in
theorem k_X5_init {l : Launch} {D : va_G} {cy : Nat → ClassId} {ad : Nat → Nat} {base : Nat} {W0 : va_W} {a : Nat} : Met l yX5_init [.code yX5_init cX5_init 1 none] ({ frames := 1, cells := 5, slots := 80, locals := 12 } : Room) (va_Pc [.ref a] (gI l D cy ad base (W0 ++ [(a, .inr (5, [.null, .null, .null, .null, .null, .int 0, .int 0]))]))) (gQI (fun ws2 => ∃ f : Nat → Nat, ws2 = W0 ++ [(a, .inr (5, [.ref (f 1), .ref (f 2), .ref (f 3), .ref (f 4), .ref (f 5), .int 0, .int 0])), (f 1, .inl (cy 0, (16, .inl (fun _ => 0)))), (f 2, .inl (cy 0, (16, .inl (fun _ => 0)))), (f 3, .inl (cy 0, (16, .inl (fun _ => 0)))), (f 4, .inl (cy 0, (16, .inl (fun _ => 0)))), (f 5, .inl (cy 0, (16, .inl (fun _ => 0))))]) D base) 5 80 (gA base) := by
  refine Met.ofW (cc := cX5_init) (maxL := 1) (ret := none) (by decide) rfl ?_
  intro p e s m args below meth c s₁ B hml0 hv
  obtain ⟨rfl, E, NI, hz, hP, hD⟩ := hv
  have F : gF p s m meth c cX5_init RX5 1 none := gF_of B hml0
  obtain ⟨hx, hb, hml, hown, hlocks, hr⟩ := id F
  have hin : meth.name = "<init>" := (name_of_methodNamed B.named B.method).1
  have hS : va_S (gA base) s.heap s.heap [] := va_S.rf
  have hl := lv_entry ([.ref a]) (n := 1) (Nat.le_of_ble_eq_true rfl)
  rw [lg_entry_eq]
  generalize (lg_sl ([.ref a]) ++ List.replicate (1 - (lg_sl ([.ref a])).length) Slot.unset).toArray = ls at hl ⊢
  have hl : lv_has ls 1 [(0, .ref a)] := hl
  refine lv_aload_n hx hb dX5_init_0 rfl (lv_at hl 0 rfl) ?_
  refine W.objInit hx hb hown (E.kw kw_204) (E.kw kw_128) (E.kw kw_129) rfl (by rw [hml]; exact hl.1) rfl dX5_init_1 (Nat.le_of_ble_eq_true rfl) (Nat.le_of_ble_eq_true rfl) ?_
  refine W.eq (g2 := F0 m 4 ls []) rfl ?_
  refine lv_aload_n hx hb dX5_init_4 rfl (lv_at hl 0 rfl) ?_
  refine lv_bipush (v := (16 : Int32)) hx hb dX5_init_5 (by decide) ?_
  refine i_newI hx hb E hP hD hS hz (N := 16) (by decide) (by decide) (by decide) (Nat.le_of_ble_eq_true rfl) (Nat.le_of_ble_eq_true rfl) dX5_init_7 (fun q1 H hP hD hS => ?_)
  rw [List.append_assoc] at hP hD
  have hP : va_P D vwCl (W0 ++ [(a, .inr (5, [.null, .null, .null, .null, .null, .int 0, .int 0])), (q1, .inl (cy 0, (16, .inl (fun _ => 0))))]) H := hP
  have hD : va_D (gA base) (W0 ++ [(a, .inr (5, [.null, .null, .null, .null, .null, .int 0, .int 0])), (q1, .inl (cy 0, (16, .inl (fun _ => 0))))]) := hD
  refine W.widen (k := 1) (n := 16) (Nat.le_of_ble_eq_true rfl) (Nat.le_of_ble_eq_true rfl) ?_
  refine i_putF hx hb hown E hP hD hS hin 0 rfl gC_X5 0 (by decide) rfl rfl (tyX5_ok 0 (by decide)) rfl rfl kw_205 (Nat.le_of_ble_eq_true rfl) dX5_init_9 (fun H locs hP hD hS => ?_)
  have hP : va_P D vwCl (W0 ++ [(a, .inr (5, [.ref q1, .null, .null, .null, .null, .int 0, .int 0])), (q1, .inl (cy 0, (16, .inl (fun _ => 0))))]) H := hP
  have hD : va_D (gA base) (W0 ++ [(a, .inr (5, [.ref q1, .null, .null, .null, .null, .int 0, .int 0])), (q1, .inl (cy 0, (16, .inl (fun _ => 0))))]) := hD
  refine lv_aload_n hx hb dX5_init_12 rfl (lv_at hl 0 rfl) ?_
  refine lv_bipush (v := (16 : Int32)) hx hb dX5_init_13 (by decide) ?_
  refine i_newI hx hb E hP hD hS hz (N := 16) (by decide) (by decide) (by decide) (Nat.le_of_ble_eq_true rfl) (Nat.le_of_ble_eq_true rfl) dX5_init_15 (fun q2 H hP hD hS => ?_)
  rw [List.append_assoc] at hP hD
  have hP : va_P D vwCl (W0 ++ [(a, .inr (5, [.ref q1, .null, .null, .null, .null, .int 0, .int 0])), (q1, .inl (cy 0, (16, .inl (fun _ => 0)))), (q2, .inl (cy 0, (16, .inl (fun _ => 0))))]) H := hP
  have hD : va_D (gA base) (W0 ++ [(a, .inr (5, [.ref q1, .null, .null, .null, .null, .int 0, .int 0])), (q1, .inl (cy 0, (16, .inl (fun _ => 0)))), (q2, .inl (cy 0, (16, .inl (fun _ => 0))))]) := hD
  refine W.widen (k := 2) (n := 32) (Nat.le_of_ble_eq_true rfl) (Nat.le_of_ble_eq_true rfl) ?_
  refine i_putF hx hb hown E hP hD hS hin 0 rfl gC_X5 1 (by decide) rfl rfl (tyX5_ok 1 (by decide)) rfl rfl kw_207 (Nat.le_of_ble_eq_true rfl) dX5_init_17 (fun H locs hP hD hS => ?_)
  have hP : va_P D vwCl (W0 ++ [(a, .inr (5, [.ref q1, .ref q2, .null, .null, .null, .int 0, .int 0])), (q1, .inl (cy 0, (16, .inl (fun _ => 0)))), (q2, .inl (cy 0, (16, .inl (fun _ => 0))))]) H := hP
  have hD : va_D (gA base) (W0 ++ [(a, .inr (5, [.ref q1, .ref q2, .null, .null, .null, .int 0, .int 0])), (q1, .inl (cy 0, (16, .inl (fun _ => 0)))), (q2, .inl (cy 0, (16, .inl (fun _ => 0))))]) := hD
  refine lv_aload_n hx hb dX5_init_20 rfl (lv_at hl 0 rfl) ?_
  refine lv_bipush (v := (16 : Int32)) hx hb dX5_init_21 (by decide) ?_
  refine i_newI hx hb E hP hD hS hz (N := 16) (by decide) (by decide) (by decide) (Nat.le_of_ble_eq_true rfl) (Nat.le_of_ble_eq_true rfl) dX5_init_23 (fun q3 H hP hD hS => ?_)
  rw [List.append_assoc] at hP hD
  have hP : va_P D vwCl (W0 ++ [(a, .inr (5, [.ref q1, .ref q2, .null, .null, .null, .int 0, .int 0])), (q1, .inl (cy 0, (16, .inl (fun _ => 0)))), (q2, .inl (cy 0, (16, .inl (fun _ => 0)))), (q3, .inl (cy 0, (16, .inl (fun _ => 0))))]) H := hP
  have hD : va_D (gA base) (W0 ++ [(a, .inr (5, [.ref q1, .ref q2, .null, .null, .null, .int 0, .int 0])), (q1, .inl (cy 0, (16, .inl (fun _ => 0)))), (q2, .inl (cy 0, (16, .inl (fun _ => 0)))), (q3, .inl (cy 0, (16, .inl (fun _ => 0))))]) := hD
  refine W.widen (k := 3) (n := 48) (Nat.le_of_ble_eq_true rfl) (Nat.le_of_ble_eq_true rfl) ?_
  refine i_putF hx hb hown E hP hD hS hin 0 rfl gC_X5 2 (by decide) rfl rfl (tyX5_ok 2 (by decide)) rfl rfl kw_209 (Nat.le_of_ble_eq_true rfl) dX5_init_25 (fun H locs hP hD hS => ?_)
  have hP : va_P D vwCl (W0 ++ [(a, .inr (5, [.ref q1, .ref q2, .ref q3, .null, .null, .int 0, .int 0])), (q1, .inl (cy 0, (16, .inl (fun _ => 0)))), (q2, .inl (cy 0, (16, .inl (fun _ => 0)))), (q3, .inl (cy 0, (16, .inl (fun _ => 0))))]) H := hP
  have hD : va_D (gA base) (W0 ++ [(a, .inr (5, [.ref q1, .ref q2, .ref q3, .null, .null, .int 0, .int 0])), (q1, .inl (cy 0, (16, .inl (fun _ => 0)))), (q2, .inl (cy 0, (16, .inl (fun _ => 0)))), (q3, .inl (cy 0, (16, .inl (fun _ => 0))))]) := hD
  refine lv_aload_n hx hb dX5_init_28 rfl (lv_at hl 0 rfl) ?_
  refine lv_bipush (v := (16 : Int32)) hx hb dX5_init_29 (by decide) ?_
  refine i_newI hx hb E hP hD hS hz (N := 16) (by decide) (by decide) (by decide) (Nat.le_of_ble_eq_true rfl) (Nat.le_of_ble_eq_true rfl) dX5_init_31 (fun q4 H hP hD hS => ?_)
  rw [List.append_assoc] at hP hD
  have hP : va_P D vwCl (W0 ++ [(a, .inr (5, [.ref q1, .ref q2, .ref q3, .null, .null, .int 0, .int 0])), (q1, .inl (cy 0, (16, .inl (fun _ => 0)))), (q2, .inl (cy 0, (16, .inl (fun _ => 0)))), (q3, .inl (cy 0, (16, .inl (fun _ => 0)))), (q4, .inl (cy 0, (16, .inl (fun _ => 0))))]) H := hP
  have hD : va_D (gA base) (W0 ++ [(a, .inr (5, [.ref q1, .ref q2, .ref q3, .null, .null, .int 0, .int 0])), (q1, .inl (cy 0, (16, .inl (fun _ => 0)))), (q2, .inl (cy 0, (16, .inl (fun _ => 0)))), (q3, .inl (cy 0, (16, .inl (fun _ => 0)))), (q4, .inl (cy 0, (16, .inl (fun _ => 0))))]) := hD
  refine W.widen (k := 4) (n := 64) (Nat.le_of_ble_eq_true rfl) (Nat.le_of_ble_eq_true rfl) ?_
  refine i_putF hx hb hown E hP hD hS hin 0 rfl gC_X5 3 (by decide) rfl rfl (tyX5_ok 3 (by decide)) rfl rfl kw_211 (Nat.le_of_ble_eq_true rfl) dX5_init_33 (fun H locs hP hD hS => ?_)
  have hP : va_P D vwCl (W0 ++ [(a, .inr (5, [.ref q1, .ref q2, .ref q3, .ref q4, .null, .int 0, .int 0])), (q1, .inl (cy 0, (16, .inl (fun _ => 0)))), (q2, .inl (cy 0, (16, .inl (fun _ => 0)))), (q3, .inl (cy 0, (16, .inl (fun _ => 0)))), (q4, .inl (cy 0, (16, .inl (fun _ => 0))))]) H := hP
  have hD : va_D (gA base) (W0 ++ [(a, .inr (5, [.ref q1, .ref q2, .ref q3, .ref q4, .null, .int 0, .int 0])), (q1, .inl (cy 0, (16, .inl (fun _ => 0)))), (q2, .inl (cy 0, (16, .inl (fun _ => 0)))), (q3, .inl (cy 0, (16, .inl (fun _ => 0)))), (q4, .inl (cy 0, (16, .inl (fun _ => 0))))]) := hD
  refine lv_aload_n hx hb dX5_init_36 rfl (lv_at hl 0 rfl) ?_
  refine lv_bipush (v := (16 : Int32)) hx hb dX5_init_37 (by decide) ?_
  refine i_newI hx hb E hP hD hS hz (N := 16) (by decide) (by decide) (by decide) (Nat.le_of_ble_eq_true rfl) (Nat.le_of_ble_eq_true rfl) dX5_init_39 (fun q5 H hP hD hS => ?_)
  rw [List.append_assoc] at hP hD
  have hP : va_P D vwCl (W0 ++ [(a, .inr (5, [.ref q1, .ref q2, .ref q3, .ref q4, .null, .int 0, .int 0])), (q1, .inl (cy 0, (16, .inl (fun _ => 0)))), (q2, .inl (cy 0, (16, .inl (fun _ => 0)))), (q3, .inl (cy 0, (16, .inl (fun _ => 0)))), (q4, .inl (cy 0, (16, .inl (fun _ => 0)))), (q5, .inl (cy 0, (16, .inl (fun _ => 0))))]) H := hP
  have hD : va_D (gA base) (W0 ++ [(a, .inr (5, [.ref q1, .ref q2, .ref q3, .ref q4, .null, .int 0, .int 0])), (q1, .inl (cy 0, (16, .inl (fun _ => 0)))), (q2, .inl (cy 0, (16, .inl (fun _ => 0)))), (q3, .inl (cy 0, (16, .inl (fun _ => 0)))), (q4, .inl (cy 0, (16, .inl (fun _ => 0)))), (q5, .inl (cy 0, (16, .inl (fun _ => 0))))]) := hD
  refine W.widen (k := 5) (n := 80) (Nat.le_of_ble_eq_true rfl) (Nat.le_of_ble_eq_true rfl) ?_
  refine i_putF hx hb hown E hP hD hS hin 0 rfl gC_X5 4 (by decide) rfl rfl (tyX5_ok 4 (by decide)) rfl rfl kw_213 (Nat.le_of_ble_eq_true rfl) dX5_init_41 (fun H locs hP hD hS => ?_)
  have hP : va_P D vwCl (W0 ++ [(a, .inr (5, [.ref q1, .ref q2, .ref q3, .ref q4, .ref q5, .int 0, .int 0])), (q1, .inl (cy 0, (16, .inl (fun _ => 0)))), (q2, .inl (cy 0, (16, .inl (fun _ => 0)))), (q3, .inl (cy 0, (16, .inl (fun _ => 0)))), (q4, .inl (cy 0, (16, .inl (fun _ => 0)))), (q5, .inl (cy 0, (16, .inl (fun _ => 0))))]) H := hP
  have hD : va_D (gA base) (W0 ++ [(a, .inr (5, [.ref q1, .ref q2, .ref q3, .ref q4, .ref q5, .int 0, .int 0])), (q1, .inl (cy 0, (16, .inl (fun _ => 0)))), (q2, .inl (cy 0, (16, .inl (fun _ => 0)))), (q3, .inl (cy 0, (16, .inl (fun _ => 0)))), (q4, .inl (cy 0, (16, .inl (fun _ => 0)))), (q5, .inl (cy 0, (16, .inl (fun _ => 0))))]) := hD
  exact i_vret hx hb hr hlocks ⟨fun k => [a, q1, q2, q3, q4, q5].getD k 0, rfl⟩ hP hD hS dX5_init_44
set_option maxHeartbeats 4000000 in
set_option maxRecDepth 100000 in
theorem k_X2_init {l : Launch} {D : va_G} {cy : Nat → ClassId} {ad : Nat → Nat} {base : Nat} {W0 : va_W} {a : Nat} : Met l yX2_init [.code yX2_init cX2_init 1 none] ({ frames := 2, cells := 13, slots := 220, locals := 32 } : Room) (va_Pc [.ref a] (gI l D cy ad base (W0 ++ [(a, .inr (2, [.null, .int 0, .null, .null, .null, .null, .null, .null, .int 0, .null]))]))) (gQI (fun ws2 => ∃ f : Nat → Nat, ws2 = W0 ++ [(a, .inr (2, [.ref (f 1), .int 0, .ref (f 7), .ref (f 8), .ref (f 9), .ref (f 10), .ref (f 11), .ref (f 12), .int 0, .ref (f 13)])), (f 1, .inr (5, [.ref (f 2), .ref (f 3), .ref (f 4), .ref (f 5), .ref (f 6), .int 0, .int 0])), (f 2, .inl (cy 0, (16, .inl (fun _ => 0)))), (f 3, .inl (cy 0, (16, .inl (fun _ => 0)))), (f 4, .inl (cy 0, (16, .inl (fun _ => 0)))), (f 5, .inl (cy 0, (16, .inl (fun _ => 0)))), (f 6, .inl (cy 0, (16, .inl (fun _ => 0)))), (f 7, .inl (cy 0, (20, .inl (fun _ => 0)))), (f 8, .inl (cy 0, (20, .inl (fun _ => 0)))), (f 9, .inl (cy 0, (20, .inl (fun _ => 0)))), (f 10, .inl (cy 0, (20, .inl (fun _ => 0)))), (f 11, .inl (cy 0, (20, .inl (fun _ => 0)))), (f 12, .inl (cy 0, (17, .inl (fun _ => 0)))), (f 13, .inl (cy 0, (16, .inl (fun _ => 0))))]) D base) 13 220 (gA base) := by
  refine Met.ofW (cc := cX2_init) (maxL := 1) (ret := none) (by decide) rfl ?_
  intro p e s m args below meth c s₁ B hml0 hv
  obtain ⟨rfl, E, NI, hz, hP, hD⟩ := hv
  have F : gF p s m meth c cX2_init RX2 1 none := gF_of B hml0
  obtain ⟨hx, hb, hml, hown, hlocks, hr⟩ := id F
  have hin : meth.name = "<init>" := (name_of_methodNamed B.named B.method).1
  have hS : va_S (gA base) s.heap s.heap [] := va_S.rf
  have hl := lv_entry ([.ref a]) (n := 1) (Nat.le_of_ble_eq_true rfl)
  rw [lg_entry_eq]
  generalize (lg_sl ([.ref a]) ++ List.replicate (1 - (lg_sl ([.ref a])).length) Slot.unset).toArray = ls at hl ⊢
  have hl : lv_has ls 1 [(0, .ref a)] := hl
  refine lv_aload_n hx hb dX2_init_0 rfl (lv_at hl 0 rfl) ?_
  refine W.objInit hx hb hown (E.kw kw_198) (E.kw kw_128) (E.kw kw_129) rfl (by rw [hml]; exact hl.1) rfl dX2_init_1 (Nat.le_of_ble_eq_true rfl) (Nat.le_of_ble_eq_true rfl) ?_
  refine W.eq (g2 := F0 m 4 ls []) rfl ?_
  refine lv_aload_n hx hb dX2_init_4 rfl (lv_at hl 0 rfl) ?_
  refine i_new hx hb hown E hP hD hS hz gC_X5 kw_199 kw_200 kw_110 (fs := [.null, .null, .null, .null, .null, .int 0, .int 0]) (fun j hj => by match j, hj with | 0, _ => rfl | 1, _ => rfl | 2, _ => rfl | 3, _ => rfl | 4, _ => rfl | 5, _ => rfl | 6, _ => rfl | k + 7, h9 => exact absurd h9 (by omega)) (Nat.le_of_ble_eq_true rfl) (Nat.le_of_ble_eq_true rfl) dX2_init_5 (fun q1 H hP hD hS => ?_)
  refine W.widen (k := 1) (n := 7) (Nat.le_of_ble_eq_true rfl) (Nat.le_of_ble_eq_true rfl) ?_
  refine lv_dup hx hb dX2_init_8 rfl ?_
  refine i_callN hx hb (hml.trans hl.1.symm) hown E hP hD hS NI hz ⟨kw_203, kw_110, kw_202, gN_X5, by decide +kernel, rfl⟩ (NI _ (List.mem_of_getElem? (i := 3) rfl)) k_X5_init (Nat.le_of_ble_eq_true rfl) ⟨Nat.le_of_ble_eq_true rfl, Nat.le_of_ble_eq_true rfl⟩ ⟨Nat.le_of_ble_eq_true rfl, Nat.le_of_ble_eq_true rfl⟩ dX2_init_9 (fun ws2 H locs hp hP hD hS => ?_)
  obtain ⟨f2, rfl⟩ := hp
  rw [List.append_assoc] at hP hD
  have hP : va_P D vwCl (W0 ++ [(a, .inr (2, [.null, .int 0, .null, .null, .null, .null, .null, .null, .int 0, .null])), (q1, .inr (5, [.ref (f2 1), .ref (f2 2), .ref (f2 3), .ref (f2 4), .ref (f2 5), .int 0, .int 0])), (f2 1, .inl (cy 0, (16, .inl (fun _ => 0)))), (f2 2, .inl (cy 0, (16, .inl (fun _ => 0)))), (f2 3, .inl (cy 0, (16, .inl (fun _ => 0)))), (f2 4, .inl (cy 0, (16, .inl (fun _ => 0)))), (f2 5, .inl (cy 0, (16, .inl (fun _ => 0))))]) H := hP
  have hD : va_D (gA base) (W0 ++ [(a, .inr (2, [.null, .int 0, .null, .null, .null, .null, .null, .null, .int 0, .null])), (q1, .inr (5, [.ref (f2 1), .ref (f2 2), .ref (f2 3), .ref (f2 4), .ref (f2 5), .int 0, .int 0])), (f2 1, .inl (cy 0, (16, .inl (fun _ => 0)))), (f2 2, .inl (cy 0, (16, .inl (fun _ => 0)))), (f2 3, .inl (cy 0, (16, .inl (fun _ => 0)))), (f2 4, .inl (cy 0, (16, .inl (fun _ => 0)))), (f2 5, .inl (cy 0, (16, .inl (fun _ => 0))))]) := hD
  refine W.widen (k := 6) (n := 87) (Nat.le_of_ble_eq_true rfl) (Nat.le_of_ble_eq_true rfl) ?_
  refine i_putF hx hb hown E hP hD hS hin 0 rfl gC_X2 0 (by decide) rfl rfl (tyX2_ok 0 (by decide)) rfl rfl kw_234 (Nat.le_of_ble_eq_true rfl) dX2_init_12 (fun H locs hP hD hS => ?_)
  have hP : va_P D vwCl (W0 ++ [(a, .inr (2, [.ref q1, .int 0, .null, .null, .null, .null, .null, .null, .int 0, .null])), (q1, .inr (5, [.ref (f2 1), .ref (f2 2), .ref (f2 3), .ref (f2 4), .ref (f2 5), .int 0, .int 0])), (f2 1, .inl (cy 0, (16, .inl (fun _ => 0)))), (f2 2, .inl (cy 0, (16, .inl (fun _ => 0)))), (f2 3, .inl (cy 0, (16, .inl (fun _ => 0)))), (f2 4, .inl (cy 0, (16, .inl (fun _ => 0)))), (f2 5, .inl (cy 0, (16, .inl (fun _ => 0))))]) H := hP
  have hD : va_D (gA base) (W0 ++ [(a, .inr (2, [.ref q1, .int 0, .null, .null, .null, .null, .null, .null, .int 0, .null])), (q1, .inr (5, [.ref (f2 1), .ref (f2 2), .ref (f2 3), .ref (f2 4), .ref (f2 5), .int 0, .int 0])), (f2 1, .inl (cy 0, (16, .inl (fun _ => 0)))), (f2 2, .inl (cy 0, (16, .inl (fun _ => 0)))), (f2 3, .inl (cy 0, (16, .inl (fun _ => 0)))), (f2 4, .inl (cy 0, (16, .inl (fun _ => 0)))), (f2 5, .inl (cy 0, (16, .inl (fun _ => 0))))]) := hD
  refine lv_aload_n hx hb dX2_init_15 rfl (lv_at hl 0 rfl) ?_
  refine lv_bipush (v := (20 : Int32)) hx hb dX2_init_16 (by decide) ?_
  refine i_newI hx hb E hP hD hS hz (N := 20) (by decide) (by decide) (by decide) (Nat.le_of_ble_eq_true rfl) (Nat.le_of_ble_eq_true rfl) dX2_init_18 (fun q3 H hP hD hS => ?_)
  rw [List.append_assoc] at hP hD
  have hP : va_P D vwCl (W0 ++ [(a, .inr (2, [.ref q1, .int 0, .null, .null, .null, .null, .null, .null, .int 0, .null])), (q1, .inr (5, [.ref (f2 1), .ref (f2 2), .ref (f2 3), .ref (f2 4), .ref (f2 5), .int 0, .int 0])), (f2 1, .inl (cy 0, (16, .inl (fun _ => 0)))), (f2 2, .inl (cy 0, (16, .inl (fun _ => 0)))), (f2 3, .inl (cy 0, (16, .inl (fun _ => 0)))), (f2 4, .inl (cy 0, (16, .inl (fun _ => 0)))), (f2 5, .inl (cy 0, (16, .inl (fun _ => 0)))), (q3, .inl (cy 0, (20, .inl (fun _ => 0))))]) H := hP
  have hD : va_D (gA base) (W0 ++ [(a, .inr (2, [.ref q1, .int 0, .null, .null, .null, .null, .null, .null, .int 0, .null])), (q1, .inr (5, [.ref (f2 1), .ref (f2 2), .ref (f2 3), .ref (f2 4), .ref (f2 5), .int 0, .int 0])), (f2 1, .inl (cy 0, (16, .inl (fun _ => 0)))), (f2 2, .inl (cy 0, (16, .inl (fun _ => 0)))), (f2 3, .inl (cy 0, (16, .inl (fun _ => 0)))), (f2 4, .inl (cy 0, (16, .inl (fun _ => 0)))), (f2 5, .inl (cy 0, (16, .inl (fun _ => 0)))), (q3, .inl (cy 0, (20, .inl (fun _ => 0))))]) := hD
  refine W.widen (k := 7) (n := 107) (Nat.le_of_ble_eq_true rfl) (Nat.le_of_ble_eq_true rfl) ?_
  refine i_putF hx hb hown E hP hD hS hin 0 rfl gC_X2 2 (by decide) rfl rfl (tyX2_ok 2 (by decide)) rfl rfl kw_238 (Nat.le_of_ble_eq_true rfl) dX2_init_20 (fun H locs hP hD hS => ?_)
  have hP : va_P D vwCl (W0 ++ [(a, .inr (2, [.ref q1, .int 0, .ref q3, .null, .null, .null, .null, .null, .int 0, .null])), (q1, .inr (5, [.ref (f2 1), .ref (f2 2), .ref (f2 3), .ref (f2 4), .ref (f2 5), .int 0, .int 0])), (f2 1, .inl (cy 0, (16, .inl (fun _ => 0)))), (f2 2, .inl (cy 0, (16, .inl (fun _ => 0)))), (f2 3, .inl (cy 0, (16, .inl (fun _ => 0)))), (f2 4, .inl (cy 0, (16, .inl (fun _ => 0)))), (f2 5, .inl (cy 0, (16, .inl (fun _ => 0)))), (q3, .inl (cy 0, (20, .inl (fun _ => 0))))]) H := hP
  have hD : va_D (gA base) (W0 ++ [(a, .inr (2, [.ref q1, .int 0, .ref q3, .null, .null, .null, .null, .null, .int 0, .null])), (q1, .inr (5, [.ref (f2 1), .ref (f2 2), .ref (f2 3), .ref (f2 4), .ref (f2 5), .int 0, .int 0])), (f2 1, .inl (cy 0, (16, .inl (fun _ => 0)))), (f2 2, .inl (cy 0, (16, .inl (fun _ => 0)))), (f2 3, .inl (cy 0, (16, .inl (fun _ => 0)))), (f2 4, .inl (cy 0, (16, .inl (fun _ => 0)))), (f2 5, .inl (cy 0, (16, .inl (fun _ => 0)))), (q3, .inl (cy 0, (20, .inl (fun _ => 0))))]) := hD
  refine lv_aload_n hx hb dX2_init_23 rfl (lv_at hl 0 rfl) ?_
  refine lv_bipush (v := (20 : Int32)) hx hb dX2_init_24 (by decide) ?_
  refine i_newI hx hb E hP hD hS hz (N := 20) (by decide) (by decide) (by decide) (Nat.le_of_ble_eq_true rfl) (Nat.le_of_ble_eq_true rfl) dX2_init_26 (fun q4 H hP hD hS => ?_)
  rw [List.append_assoc] at hP hD
  have hP : va_P D vwCl (W0 ++ [(a, .inr (2, [.ref q1, .int 0, .ref q3, .null, .null, .null, .null, .null, .int 0, .null])), (q1, .inr (5, [.ref (f2 1), .ref (f2 2), .ref (f2 3), .ref (f2 4), .ref (f2 5), .int 0, .int 0])), (f2 1, .inl (cy 0, (16, .inl (fun _ => 0)))), (f2 2, .inl (cy 0, (16, .inl (fun _ => 0)))), (f2 3, .inl (cy 0, (16, .inl (fun _ => 0)))), (f2 4, .inl (cy 0, (16, .inl (fun _ => 0)))), (f2 5, .inl (cy 0, (16, .inl (fun _ => 0)))), (q3, .inl (cy 0, (20, .inl (fun _ => 0)))), (q4, .inl (cy 0, (20, .inl (fun _ => 0))))]) H := hP
  have hD : va_D (gA base) (W0 ++ [(a, .inr (2, [.ref q1, .int 0, .ref q3, .null, .null, .null, .null, .null, .int 0, .null])), (q1, .inr (5, [.ref (f2 1), .ref (f2 2), .ref (f2 3), .ref (f2 4), .ref (f2 5), .int 0, .int 0])), (f2 1, .inl (cy 0, (16, .inl (fun _ => 0)))), (f2 2, .inl (cy 0, (16, .inl (fun _ => 0)))), (f2 3, .inl (cy 0, (16, .inl (fun _ => 0)))), (f2 4, .inl (cy 0, (16, .inl (fun _ => 0)))), (f2 5, .inl (cy 0, (16, .inl (fun _ => 0)))), (q3, .inl (cy 0, (20, .inl (fun _ => 0)))), (q4, .inl (cy 0, (20, .inl (fun _ => 0))))]) := hD
  refine W.widen (k := 8) (n := 127) (Nat.le_of_ble_eq_true rfl) (Nat.le_of_ble_eq_true rfl) ?_
  refine i_putF hx hb hown E hP hD hS hin 0 rfl gC_X2 3 (by decide) rfl rfl (tyX2_ok 3 (by decide)) rfl rfl kw_240 (Nat.le_of_ble_eq_true rfl) dX2_init_28 (fun H locs hP hD hS => ?_)
  have hP : va_P D vwCl (W0 ++ [(a, .inr (2, [.ref q1, .int 0, .ref q3, .ref q4, .null, .null, .null, .null, .int 0, .null])), (q1, .inr (5, [.ref (f2 1), .ref (f2 2), .ref (f2 3), .ref (f2 4), .ref (f2 5), .int 0, .int 0])), (f2 1, .inl (cy 0, (16, .inl (fun _ => 0)))), (f2 2, .inl (cy 0, (16, .inl (fun _ => 0)))), (f2 3, .inl (cy 0, (16, .inl (fun _ => 0)))), (f2 4, .inl (cy 0, (16, .inl (fun _ => 0)))), (f2 5, .inl (cy 0, (16, .inl (fun _ => 0)))), (q3, .inl (cy 0, (20, .inl (fun _ => 0)))), (q4, .inl (cy 0, (20, .inl (fun _ => 0))))]) H := hP
  have hD : va_D (gA base) (W0 ++ [(a, .inr (2, [.ref q1, .int 0, .ref q3, .ref q4, .null, .null, .null, .null, .int 0, .null])), (q1, .inr (5, [.ref (f2 1), .ref (f2 2), .ref (f2 3), .ref (f2 4), .ref (f2 5), .int 0, .int 0])), (f2 1, .inl (cy 0, (16, .inl (fun _ => 0)))), (f2 2, .inl (cy 0, (16, .inl (fun _ => 0)))), (f2 3, .inl (cy 0, (16, .inl (fun _ => 0)))), (f2 4, .inl (cy 0, (16, .inl (fun _ => 0)))), (f2 5, .inl (cy 0, (16, .inl (fun _ => 0)))), (q3, .inl (cy 0, (20, .inl (fun _ => 0)))), (q4, .inl (cy 0, (20, .inl (fun _ => 0))))]) := hD
  refine lv_aload_n hx hb dX2_init_31 rfl (lv_at hl 0 rfl) ?_
  refine lv_bipush (v := (20 : Int32)) hx hb dX2_init_32 (by decide) ?_
  refine i_newI hx hb E hP hD hS hz (N := 20) (by decide) (by decide) (by decide) (Nat.le_of_ble_eq_true rfl) (Nat.le_of_ble_eq_true rfl) dX2_init_34 (fun q5 H hP hD hS => ?_)
  rw [List.append_assoc] at hP hD
  have hP : va_P D vwCl (W0 ++ [(a, .inr (2, [.ref q1, .int 0, .ref q3, .ref q4, .null, .null, .null, .null, .int 0, .null])), (q1, .inr (5, [.ref (f2 1), .ref (f2 2), .ref (f2 3), .ref (f2 4), .ref (f2 5), .int 0, .int 0])), (f2 1, .inl (cy 0, (16, .inl (fun _ => 0)))), (f2 2, .inl (cy 0, (16, .inl (fun _ => 0)))), (f2 3, .inl (cy 0, (16, .inl (fun _ => 0)))), (f2 4, .inl (cy 0, (16, .inl (fun _ => 0)))), (f2 5, .inl (cy 0, (16, .inl (fun _ => 0)))), (q3, .inl (cy 0, (20, .inl (fun _ => 0)))), (q4, .inl (cy 0, (20, .inl (fun _ => 0)))), (q5, .inl (cy 0, (20, .inl (fun _ => 0))))]) H := hP
  have hD : va_D (gA base) (W0 ++ [(a, .inr (2, [.ref q1, .int 0, .ref q3, .ref q4, .null, .null, .null, .null, .int 0, .null])), (q1, .inr (5, [.ref (f2 1), .ref (f2 2), .ref (f2 3), .ref (f2 4), .ref (f2 5), .int 0, .int 0])), (f2 1, .inl (cy 0, (16, .inl (fun _ => 0)))), (f2 2, .inl (cy 0, (16, .inl (fun _ => 0)))), (f2 3, .inl (cy 0, (16, .inl (fun _ => 0)))), (f2 4, .inl (cy 0, (16, .inl (fun _ => 0)))), (f2 5, .inl (cy 0, (16, .inl (fun _ => 0)))), (q3, .inl (cy 0, (20, .inl (fun _ => 0)))), (q4, .inl (cy 0, (20, .inl (fun _ => 0)))), (q5, .inl (cy 0, (20, .inl (fun _ => 0))))]) := hD
  refine W.widen (k := 9) (n := 147) (Nat.le_of_ble_eq_true rfl) (Nat.le_of_ble_eq_true rfl) ?_
  refine i_putF hx hb hown E hP hD hS hin 0 rfl gC_X2 4 (by decide) rfl rfl (tyX2_ok 4 (by decide)) rfl rfl kw_242 (Nat.le_of_ble_eq_true rfl) dX2_init_36 (fun H locs hP hD hS => ?_)
  have hP : va_P D vwCl (W0 ++ [(a, .inr (2, [.ref q1, .int 0, .ref q3, .ref q4, .ref q5, .null, .null, .null, .int 0, .null])), (q1, .inr (5, [.ref (f2 1), .ref (f2 2), .ref (f2 3), .ref (f2 4), .ref (f2 5), .int 0, .int 0])), (f2 1, .inl (cy 0, (16, .inl (fun _ => 0)))), (f2 2, .inl (cy 0, (16, .inl (fun _ => 0)))), (f2 3, .inl (cy 0, (16, .inl (fun _ => 0)))), (f2 4, .inl (cy 0, (16, .inl (fun _ => 0)))), (f2 5, .inl (cy 0, (16, .inl (fun _ => 0)))), (q3, .inl (cy 0, (20, .inl (fun _ => 0)))), (q4, .inl (cy 0, (20, .inl (fun _ => 0)))), (q5, .inl (cy 0, (20, .inl (fun _ => 0))))]) H := hP
  have hD : va_D (gA base) (W0 ++ [(a, .inr (2, [.ref q1, .int 0, .ref q3, .ref q4, .ref q5, .null, .null, .null, .int 0, .null])), (q1, .inr (5, [.ref (f2 1), .ref (f2 2), .ref (f2 3), .ref (f2 4), .ref (f2 5), .int 0, .int 0])), (f2 1, .inl (cy 0, (16, .inl (fun _ => 0)))), (f2 2, .inl (cy 0, (16, .inl (fun _ => 0)))), (f2 3, .inl (cy 0, (16, .inl (fun _ => 0)))), (f2 4, .inl (cy 0, (16, .inl (fun _ => 0)))), (f2 5, .inl (cy 0, (16, .inl (fun _ => 0)))), (q3, .inl (cy 0, (20, .inl (fun _ => 0)))), (q4, .inl (cy 0, (20, .inl (fun _ => 0)))), (q5, .inl (cy 0, (20, .inl (fun _ => 0))))]) := hD
  refine lv_aload_n hx hb dX2_init_39 rfl (lv_at hl 0 rfl) ?_
  refine lv_bipush (v := (20 : Int32)) hx hb dX2_init_40 (by decide) ?_
  refine i_newI hx hb E hP hD hS hz (N := 20) (by decide) (by decide) (by decide) (Nat.le_of_ble_eq_true rfl) (Nat.le_of_ble_eq_true rfl) dX2_init_42 (fun q6 H hP hD hS => ?_)
  rw [List.append_assoc] at hP hD
  have hP : va_P D vwCl (W0 ++ [(a, .inr (2, [.ref q1, .int 0, .ref q3, .ref q4, .ref q5, .null, .null, .null, .int 0, .null])), (q1, .inr (5, [.ref (f2 1), .ref (f2 2), .ref (f2 3), .ref (f2 4), .ref (f2 5), .int 0, .int 0])), (f2 1, .inl (cy 0, (16, .inl (fun _ => 0)))), (f2 2, .inl (cy 0, (16, .inl (fun _ => 0)))), (f2 3, .inl (cy 0, (16, .inl (fun _ => 0)))), (f2 4, .inl (cy 0, (16, .inl (fun _ => 0)))), (f2 5, .inl (cy 0, (16, .inl (fun _ => 0)))), (q3, .inl (cy 0, (20, .inl (fun _ => 0)))), (q4, .inl (cy 0, (20, .inl (fun _ => 0)))), (q5, .inl (cy 0, (20, .inl (fun _ => 0)))), (q6, .inl (cy 0, (20, .inl (fun _ => 0))))]) H := hP
  have hD : va_D (gA base) (W0 ++ [(a, .inr (2, [.ref q1, .int 0, .ref q3, .ref q4, .ref q5, .null, .null, .null, .int 0, .null])), (q1, .inr (5, [.ref (f2 1), .ref (f2 2), .ref (f2 3), .ref (f2 4), .ref (f2 5), .int 0, .int 0])), (f2 1, .inl (cy 0, (16, .inl (fun _ => 0)))), (f2 2, .inl (cy 0, (16, .inl (fun _ => 0)))), (f2 3, .inl (cy 0, (16, .inl (fun _ => 0)))), (f2 4, .inl (cy 0, (16, .inl (fun _ => 0)))), (f2 5, .inl (cy 0, (16, .inl (fun _ => 0)))), (q3, .inl (cy 0, (20, .inl (fun _ => 0)))), (q4, .inl (cy 0, (20, .inl (fun _ => 0)))), (q5, .inl (cy 0, (20, .inl (fun _ => 0)))), (q6, .inl (cy 0, (20, .inl (fun _ => 0))))]) := hD
  refine W.widen (k := 10) (n := 167) (Nat.le_of_ble_eq_true rfl) (Nat.le_of_ble_eq_true rfl) ?_
  refine i_putF hx hb hown E hP hD hS hin 0 rfl gC_X2 5 (by decide) rfl rfl (tyX2_ok 5 (by decide)) rfl rfl kw_244 (Nat.le_of_ble_eq_true rfl) dX2_init_44 (fun H locs hP hD hS => ?_)
  have hP : va_P D vwCl (W0 ++ [(a, .inr (2, [.ref q1, .int 0, .ref q3, .ref q4, .ref q5, .ref q6, .null, .null, .int 0, .null])), (q1, .inr (5, [.ref (f2 1), .ref (f2 2), .ref (f2 3), .ref (f2 4), .ref (f2 5), .int 0, .int 0])), (f2 1, .inl (cy 0, (16, .inl (fun _ => 0)))), (f2 2, .inl (cy 0, (16, .inl (fun _ => 0)))), (f2 3, .inl (cy 0, (16, .inl (fun _ => 0)))), (f2 4, .inl (cy 0, (16, .inl (fun _ => 0)))), (f2 5, .inl (cy 0, (16, .inl (fun _ => 0)))), (q3, .inl (cy 0, (20, .inl (fun _ => 0)))), (q4, .inl (cy 0, (20, .inl (fun _ => 0)))), (q5, .inl (cy 0, (20, .inl (fun _ => 0)))), (q6, .inl (cy 0, (20, .inl (fun _ => 0))))]) H := hP
  have hD : va_D (gA base) (W0 ++ [(a, .inr (2, [.ref q1, .int 0, .ref q3, .ref q4, .ref q5, .ref q6, .null, .null, .int 0, .null])), (q1, .inr (5, [.ref (f2 1), .ref (f2 2), .ref (f2 3), .ref (f2 4), .ref (f2 5), .int 0, .int 0])), (f2 1, .inl (cy 0, (16, .inl (fun _ => 0)))), (f2 2, .inl (cy 0, (16, .inl (fun _ => 0)))), (f2 3, .inl (cy 0, (16, .inl (fun _ => 0)))), (f2 4, .inl (cy 0, (16, .inl (fun _ => 0)))), (f2 5, .inl (cy 0, (16, .inl (fun _ => 0)))), (q3, .inl (cy 0, (20, .inl (fun _ => 0)))), (q4, .inl (cy 0, (20, .inl (fun _ => 0)))), (q5, .inl (cy 0, (20, .inl (fun _ => 0)))), (q6, .inl (cy 0, (20, .inl (fun _ => 0))))]) := hD
  refine lv_aload_n hx hb dX2_init_47 rfl (lv_at hl 0 rfl) ?_
  refine lv_bipush (v := (20 : Int32)) hx hb dX2_init_48 (by decide) ?_
  refine i_newI hx hb E hP hD hS hz (N := 20) (by decide) (by decide) (by decide) (Nat.le_of_ble_eq_true rfl) (Nat.le_of_ble_eq_true rfl) dX2_init_50 (fun q7 H hP hD hS => ?_)
  rw [List.append_assoc] at hP hD
  have hP : va_P D vwCl (W0 ++ [(a, .inr (2, [.ref q1, .int 0, .ref q3, .ref q4, .ref q5, .ref q6, .null, .null, .int 0, .null])), (q1, .inr (5, [.ref (f2 1), .ref (f2 2), .ref (f2 3), .ref (f2 4), .ref (f2 5), .int 0, .int 0])), (f2 1, .inl (cy 0, (16, .inl (fun _ => 0)))), (f2 2, .inl (cy 0, (16, .inl (fun _ => 0)))), (f2 3, .inl (cy 0, (16, .inl (fun _ => 0)))), (f2 4, .inl (cy 0, (16, .inl (fun _ => 0)))), (f2 5, .inl (cy 0, (16, .inl (fun _ => 0)))), (q3, .inl (cy 0, (20, .inl (fun _ => 0)))), (q4, .inl (cy 0, (20, .inl (fun _ => 0)))), (q5, .inl (cy 0, (20, .inl (fun _ => 0)))), (q6, .inl (cy 0, (20, .inl (fun _ => 0)))), (q7, .inl (cy 0, (20, .inl (fun _ => 0))))]) H := hP
  have hD : va_D (gA base) (W0 ++ [(a, .inr (2, [.ref q1, .int 0, .ref q3, .ref q4, .ref q5, .ref q6, .null, .null, .int 0, .null])), (q1, .inr (5, [.ref (f2 1), .ref (f2 2), .ref (f2 3), .ref (f2 4), .ref (f2 5), .int 0, .int 0])), (f2 1, .inl (cy 0, (16, .inl (fun _ => 0)))), (f2 2, .inl (cy 0, (16, .inl (fun _ => 0)))), (f2 3, .inl (cy 0, (16, .inl (fun _ => 0)))), (f2 4, .inl (cy 0, (16, .inl (fun _ => 0)))), (f2 5, .inl (cy 0, (16, .inl (fun _ => 0)))), (q3, .inl (cy 0, (20, .inl (fun _ => 0)))), (q4, .inl (cy 0, (20, .inl (fun _ => 0)))), (q5, .inl (cy 0, (20, .inl (fun _ => 0)))), (q6, .inl (cy 0, (20, .inl (fun _ => 0)))), (q7, .inl (cy 0, (20, .inl (fun _ => 0))))]) := hD
  refine W.widen (k := 11) (n := 187) (Nat.le_of_ble_eq_true rfl) (Nat.le_of_ble_eq_true rfl) ?_
  refine i_putF hx hb hown E hP hD hS hin 0 rfl gC_X2 6 (by decide) rfl rfl (tyX2_ok 6 (by decide)) rfl rfl kw_246 (Nat.le_of_ble_eq_true rfl) dX2_init_52 (fun H locs hP hD hS => ?_)
  have hP : va_P D vwCl (W0 ++ [(a, .inr (2, [.ref q1, .int 0, .ref q3, .ref q4, .ref q5, .ref q6, .ref q7, .null, .int 0, .null])), (q1, .inr (5, [.ref (f2 1), .ref (f2 2), .ref (f2 3), .ref (f2 4), .ref (f2 5), .int 0, .int 0])), (f2 1, .inl (cy 0, (16, .inl (fun _ => 0)))), (f2 2, .inl (cy 0, (16, .inl (fun _ => 0)))), (f2 3, .inl (cy 0, (16, .inl (fun _ => 0)))), (f2 4, .inl (cy 0, (16, .inl (fun _ => 0)))), (f2 5, .inl (cy 0, (16, .inl (fun _ => 0)))), (q3, .inl (cy 0, (20, .inl (fun _ => 0)))), (q4, .inl (cy 0, (20, .inl (fun _ => 0)))), (q5, .inl (cy 0, (20, .inl (fun _ => 0)))), (q6, .inl (cy 0, (20, .inl (fun _ => 0)))), (q7, .inl (cy 0, (20, .inl (fun _ => 0))))]) H := hP
  have hD : va_D (gA base) (W0 ++ [(a, .inr (2, [.ref q1, .int 0, .ref q3, .ref q4, .ref q5, .ref q6, .ref q7, .null, .int 0, .null])), (q1, .inr (5, [.ref (f2 1), .ref (f2 2), .ref (f2 3), .ref (f2 4), .ref (f2 5), .int 0, .int 0])), (f2 1, .inl (cy 0, (16, .inl (fun _ => 0)))), (f2 2, .inl (cy 0, (16, .inl (fun _ => 0)))), (f2 3, .inl (cy 0, (16, .inl (fun _ => 0)))), (f2 4, .inl (cy 0, (16, .inl (fun _ => 0)))), (f2 5, .inl (cy 0, (16, .inl (fun _ => 0)))), (q3, .inl (cy 0, (20, .inl (fun _ => 0)))), (q4, .inl (cy 0, (20, .inl (fun _ => 0)))), (q5, .inl (cy 0, (20, .inl (fun _ => 0)))), (q6, .inl (cy 0, (20, .inl (fun _ => 0)))), (q7, .inl (cy 0, (20, .inl (fun _ => 0))))]) := hD
  refine lv_aload_n hx hb dX2_init_55 rfl (lv_at hl 0 rfl) ?_
  refine lv_bipush (v := (17 : Int32)) hx hb dX2_init_56 (by decide) ?_
  refine i_newI hx hb E hP hD hS hz (N := 17) (by decide) (by decide) (by decide) (Nat.le_of_ble_eq_true rfl) (Nat.le_of_ble_eq_true rfl) dX2_init_58 (fun q8 H hP hD hS => ?_)
  rw [List.append_assoc] at hP hD
  have hP : va_P D vwCl (W0 ++ [(a, .inr (2, [.ref q1, .int 0, .ref q3, .ref q4, .ref q5, .ref q6, .ref q7, .null, .int 0, .null])), (q1, .inr (5, [.ref (f2 1), .ref (f2 2), .ref (f2 3), .ref (f2 4), .ref (f2 5), .int 0, .int 0])), (f2 1, .inl (cy 0, (16, .inl (fun _ => 0)))), (f2 2, .inl (cy 0, (16, .inl (fun _ => 0)))), (f2 3, .inl (cy 0, (16, .inl (fun _ => 0)))), (f2 4, .inl (cy 0, (16, .inl (fun _ => 0)))), (f2 5, .inl (cy 0, (16, .inl (fun _ => 0)))), (q3, .inl (cy 0, (20, .inl (fun _ => 0)))), (q4, .inl (cy 0, (20, .inl (fun _ => 0)))), (q5, .inl (cy 0, (20, .inl (fun _ => 0)))), (q6, .inl (cy 0, (20, .inl (fun _ => 0)))), (q7, .inl (cy 0, (20, .inl (fun _ => 0)))), (q8, .inl (cy 0, (17, .inl (fun _ => 0))))]) H := hP
  have hD : va_D (gA base) (W0 ++ [(a, .inr (2, [.ref q1, .int 0, .ref q3, .ref q4, .ref q5, .ref q6, .ref q7, .null, .int 0, .null])), (q1, .inr (5, [.ref (f2 1), .ref (f2 2), .ref (f2 3), .ref (f2 4), .ref (f2 5), .int 0, .int 0])), (f2 1, .inl (cy 0, (16, .inl (fun _ => 0)))), (f2 2, .inl (cy 0, (16, .inl (fun _ => 0)))), (f2 3, .inl (cy 0, (16, .inl (fun _ => 0)))), (f2 4, .inl (cy 0, (16, .inl (fun _ => 0)))), (f2 5, .inl (cy 0, (16, .inl (fun _ => 0)))), (q3, .inl (cy 0, (20, .inl (fun _ => 0)))), (q4, .inl (cy 0, (20, .inl (fun _ => 0)))), (q5, .inl (cy 0, (20, .inl (fun _ => 0)))), (q6, .inl (cy 0, (20, .inl (fun _ => 0)))), (q7, .inl (cy 0, (20, .inl (fun _ => 0)))), (q8, .inl (cy 0, (17, .inl (fun _ => 0))))]) := hD
  refine W.widen (k := 12) (n := 204) (Nat.le_of_ble_eq_true rfl) (Nat.le_of_ble_eq_true rfl) ?_
  refine i_putF hx hb hown E hP hD hS hin 0 rfl gC_X2 7 (by decide) rfl rfl (tyX2_ok 7 (by decide)) rfl rfl kw_248 (Nat.le_of_ble_eq_true rfl) dX2_init_60 (fun H locs hP hD hS => ?_)
  have hP : va_P D vwCl (W0 ++ [(a, .inr (2, [.ref q1, .int 0, .ref q3, .ref q4, .ref q5, .ref q6, .ref q7, .ref q8, .int 0, .null])), (q1, .inr (5, [.ref (f2 1), .ref (f2 2), .ref (f2 3), .ref (f2 4), .ref (f2 5), .int 0, .int 0])), (f2 1, .inl (cy 0, (16, .inl (fun _ => 0)))), (f2 2, .inl (cy 0, (16, .inl (fun _ => 0)))), (f2 3, .inl (cy 0, (16, .inl (fun _ => 0)))), (f2 4, .inl (cy 0, (16, .inl (fun _ => 0)))), (f2 5, .inl (cy 0, (16, .inl (fun _ => 0)))), (q3, .inl (cy 0, (20, .inl (fun _ => 0)))), (q4, .inl (cy 0, (20, .inl (fun _ => 0)))), (q5, .inl (cy 0, (20, .inl (fun _ => 0)))), (q6, .inl (cy 0, (20, .inl (fun _ => 0)))), (q7, .inl (cy 0, (20, .inl (fun _ => 0)))), (q8, .inl (cy 0, (17, .inl (fun _ => 0))))]) H := hP
  have hD : va_D (gA base) (W0 ++ [(a, .inr (2, [.ref q1, .int 0, .ref q3, .ref q4, .ref q5, .ref q6, .ref q7, .ref q8, .int 0, .null])), (q1, .inr (5, [.ref (f2 1), .ref (f2 2), .ref (f2 3), .ref (f2 4), .ref (f2 5), .int 0, .int 0])), (f2 1, .inl (cy 0, (16, .inl (fun _ => 0)))), (f2 2, .inl (cy 0, (16, .inl (fun _ => 0)))), (f2 3, .inl (cy 0, (16, .inl (fun _ => 0)))), (f2 4, .inl (cy 0, (16, .inl (fun _ => 0)))), (f2 5, .inl (cy 0, (16, .inl (fun _ => 0)))), (q3, .inl (cy 0, (20, .inl (fun _ => 0)))), (q4, .inl (cy 0, (20, .inl (fun _ => 0)))), (q5, .inl (cy 0, (20, .inl (fun _ => 0)))), (q6, .inl (cy 0, (20, .inl (fun _ => 0)))), (q7, .inl (cy 0, (20, .inl (fun _ => 0)))), (q8, .inl (cy 0, (17, .inl (fun _ => 0))))]) := hD
  refine lv_aload_n hx hb dX2_init_63 rfl (lv_at hl 0 rfl) ?_
  refine lv_bipush (v := (16 : Int32)) hx hb dX2_init_64 (by decide) ?_
  refine i_newI hx hb E hP hD hS hz (N := 16) (by decide) (by decide) (by decide) (Nat.le_of_ble_eq_true rfl) (Nat.le_of_ble_eq_true rfl) dX2_init_66 (fun q9 H hP hD hS => ?_)
  rw [List.append_assoc] at hP hD
  have hP : va_P D vwCl (W0 ++ [(a, .inr (2, [.ref q1, .int 0, .ref q3, .ref q4, .ref q5, .ref q6, .ref q7, .ref q8, .int 0, .null])), (q1, .inr (5, [.ref (f2 1), .ref (f2 2), .ref (f2 3), .ref (f2 4), .ref (f2 5), .int 0, .int 0])), (f2 1, .inl (cy 0, (16, .inl (fun _ => 0)))), (f2 2, .inl (cy 0, (16, .inl (fun _ => 0)))), (f2 3, .inl (cy 0, (16, .inl (fun _ => 0)))), (f2 4, .inl (cy 0, (16, .inl (fun _ => 0)))), (f2 5, .inl (cy 0, (16, .inl (fun _ => 0)))), (q3, .inl (cy 0, (20, .inl (fun _ => 0)))), (q4, .inl (cy 0, (20, .inl (fun _ => 0)))), (q5, .inl (cy 0, (20, .inl (fun _ => 0)))), (q6, .inl (cy 0, (20, .inl (fun _ => 0)))), (q7, .inl (cy 0, (20, .inl (fun _ => 0)))), (q8, .inl (cy 0, (17, .inl (fun _ => 0)))), (q9, .inl (cy 0, (16, .inl (fun _ => 0))))]) H := hP
  have hD : va_D (gA base) (W0 ++ [(a, .inr (2, [.ref q1, .int 0, .ref q3, .ref q4, .ref q5, .ref q6, .ref q7, .ref q8, .int 0, .null])), (q1, .inr (5, [.ref (f2 1), .ref (f2 2), .ref (f2 3), .ref (f2 4), .ref (f2 5), .int 0, .int 0])), (f2 1, .inl (cy 0, (16, .inl (fun _ => 0)))), (f2 2, .inl (cy 0, (16, .inl (fun _ => 0)))), (f2 3, .inl (cy 0, (16, .inl (fun _ => 0)))), (f2 4, .inl (cy 0, (16, .inl (fun _ => 0)))), (f2 5, .inl (cy 0, (16, .inl (fun _ => 0)))), (q3, .inl (cy 0, (20, .inl (fun _ => 0)))), (q4, .inl (cy 0, (20, .inl (fun _ => 0)))), (q5, .inl (cy 0, (20, .inl (fun _ => 0)))), (q6, .inl (cy 0, (20, .inl (fun _ => 0)))), (q7, .inl (cy 0, (20, .inl (fun _ => 0)))), (q8, .inl (cy 0, (17, .inl (fun _ => 0)))), (q9, .inl (cy 0, (16, .inl (fun _ => 0))))]) := hD
  refine W.widen (k := 13) (n := 220) (Nat.le_of_ble_eq_true rfl) (Nat.le_of_ble_eq_true rfl) ?_
  refine i_putF hx hb hown E hP hD hS hin 0 rfl gC_X2 9 (by decide) rfl rfl (tyX2_ok 9 (by decide)) rfl rfl kw_252 (Nat.le_of_ble_eq_true rfl) dX2_init_68 (fun H locs hP hD hS => ?_)
  have hP : va_P D vwCl (W0 ++ [(a, .inr (2, [.ref q1, .int 0, .ref q3, .ref q4, .ref q5, .ref q6, .ref q7, .ref q8, .int 0, .ref q9])), (q1, .inr (5, [.ref (f2 1), .ref (f2 2), .ref (f2 3), .ref (f2 4), .ref (f2 5), .int 0, .int 0])), (f2 1, .inl (cy 0, (16, .inl (fun _ => 0)))), (f2 2, .inl (cy 0, (16, .inl (fun _ => 0)))), (f2 3, .inl (cy 0, (16, .inl (fun _ => 0)))), (f2 4, .inl (cy 0, (16, .inl (fun _ => 0)))), (f2 5, .inl (cy 0, (16, .inl (fun _ => 0)))), (q3, .inl (cy 0, (20, .inl (fun _ => 0)))), (q4, .inl (cy 0, (20, .inl (fun _ => 0)))), (q5, .inl (cy 0, (20, .inl (fun _ => 0)))), (q6, .inl (cy 0, (20, .inl (fun _ => 0)))), (q7, .inl (cy 0, (20, .inl (fun _ => 0)))), (q8, .inl (cy 0, (17, .inl (fun _ => 0)))), (q9, .inl (cy 0, (16, .inl (fun _ => 0))))]) H := hP
  have hD : va_D (gA base) (W0 ++ [(a, .inr (2, [.ref q1, .int 0, .ref q3, .ref q4, .ref q5, .ref q6, .ref q7, .ref q8, .int 0, .ref q9])), (q1, .inr (5, [.ref (f2 1), .ref (f2 2), .ref (f2 3), .ref (f2 4), .ref (f2 5), .int 0, .int 0])), (f2 1, .inl (cy 0, (16, .inl (fun _ => 0)))), (f2 2, .inl (cy 0, (16, .inl (fun _ => 0)))), (f2 3, .inl (cy 0, (16, .inl (fun _ => 0)))), (f2 4, .inl (cy 0, (16, .inl (fun _ => 0)))), (f2 5, .inl (cy 0, (16, .inl (fun _ => 0)))), (q3, .inl (cy 0, (20, .inl (fun _ => 0)))), (q4, .inl (cy 0, (20, .inl (fun _ => 0)))), (q5, .inl (cy 0, (20, .inl (fun _ => 0)))), (q6, .inl (cy 0, (20, .inl (fun _ => 0)))), (q7, .inl (cy 0, (20, .inl (fun _ => 0)))), (q8, .inl (cy 0, (17, .inl (fun _ => 0)))), (q9, .inl (cy 0, (16, .inl (fun _ => 0))))]) := hD
  exact i_vret hx hb hr hlocks ⟨fun k => [a, q1, f2 1, f2 2, f2 3, f2 4, f2 5, q3, q4, q5, q6, q7, q8, q9].getD k 0, rfl⟩ hP hD hS dX2_init_71
set_option maxHeartbeats 4000000 in
set_option maxRecDepth 100000 in
theorem k_X4_init {l : Launch} {D : va_G} {cy : Nat → ClassId} {ad : Nat → Nat} {base : Nat} {W0 : va_W} {a : Nat} : Met l yX4_init [.code yX4_init cX4_init 1 none] ({ frames := 1, cells := 1, slots := 1200, locals := 12 } : Room) (va_Pc [.ref a] (gI l D cy ad base (W0 ++ [(a, .inr (4, [.null, .int 0, .int 0, .int 0, .int 0, .int 0, .int 0, .int 0, .int 0, .int 0]))]))) (gQI (fun ws2 => ∃ f : Nat → Nat, ws2 = W0 ++ [(a, .inr (4, [.ref (f 1), .int 0, .int 0, .int 0, .int 0, .int 0, .int 0, .int 0, .int 0, .int 0])), (f 1, .inl (cy 2, (1200, .inl (fun _ => 0))))]) D base) 1 1200 (gA base) := by
  refine Met.ofW (cc := cX4_init) (maxL := 1) (ret := none) (by decide) rfl ?_
  intro p e s m args below meth c s₁ B hml0 hv
  obtain ⟨rfl, E, NI, hz, hP, hD⟩ := hv
  have F : gF p s m meth c cX4_init RX4 1 none := gF_of B hml0
  obtain ⟨hx, hb, hml, hown, hlocks, hr⟩ := id F
  have hin : meth.name = "<init>" := (name_of_methodNamed B.named B.method).1
  have hS : va_S (gA base) s.heap s.heap [] := va_S.rf
  have hl := lv_entry ([.ref a]) (n := 1) (Nat.le_of_ble_eq_true rfl)
  rw [lg_entry_eq]
  generalize (lg_sl ([.ref a]) ++ List.replicate (1 - (lg_sl ([.ref a])).length) Slot.unset).toArray = ls at hl ⊢
  have hl : lv_has ls 1 [(0, .ref a)] := hl
  refine lv_aload_n hx hb dX4_init_0 rfl (lv_at hl 0 rfl) ?_
  refine W.objInit hx hb hown (E.kw kw_135) (E.kw kw_128) (E.kw kw_129) rfl (by rw [hml]; exact hl.1) rfl dX4_init_1 (Nat.le_of_ble_eq_true rfl) (Nat.le_of_ble_eq_true rfl) ?_
  refine W.eq (g2 := F0 m 4 ls []) rfl ?_
  refine lv_aload_n hx hb dX4_init_4 rfl (lv_at hl 0 rfl) ?_
  refine lv_sipush (v := (1200 : Int32)) hx hb dX4_init_5 (by decide) ?_
  refine i_newB hx hb E hP hD hS hz (N := 1200) (by decide) (by decide) (by decide) (Nat.le_of_ble_eq_true rfl) (Nat.le_of_ble_eq_true rfl) dX4_init_8 (fun q1 H hP hD hS => ?_)
  rw [List.append_assoc] at hP hD
  have hP : va_P D vwCl (W0 ++ [(a, .inr (4, [.null, .int 0, .int 0, .int 0, .int 0, .int 0, .int 0, .int 0, .int 0, .int 0])), (q1, .inl (cy 2, (1200, .inl (fun _ => 0))))]) H := hP
  have hD : va_D (gA base) (W0 ++ [(a, .inr (4, [.null, .int 0, .int 0, .int 0, .int 0, .int 0, .int 0, .int 0, .int 0, .int 0])), (q1, .inl (cy 2, (1200, .inl (fun _ => 0))))]) := hD
  refine W.widen (k := 1) (n := 1200) (Nat.le_of_ble_eq_true rfl) (Nat.le_of_ble_eq_true rfl) ?_
  refine i_putF hx hb hown E hP hD hS hin 0 rfl gC_X4 0 (by decide) rfl rfl (tyX4_ok 0 (by decide)) rfl rfl kw_136 (Nat.le_of_ble_eq_true rfl) dX4_init_10 (fun H locs hP hD hS => ?_)
  have hP : va_P D vwCl (W0 ++ [(a, .inr (4, [.ref q1, .int 0, .int 0, .int 0, .int 0, .int 0, .int 0, .int 0, .int 0, .int 0])), (q1, .inl (cy 2, (1200, .inl (fun _ => 0))))]) H := hP
  have hD : va_D (gA base) (W0 ++ [(a, .inr (4, [.ref q1, .int 0, .int 0, .int 0, .int 0, .int 0, .int 0, .int 0, .int 0, .int 0])), (q1, .inl (cy 2, (1200, .inl (fun _ => 0))))]) := hD
  exact i_vret hx hb hr hlocks ⟨fun k => [a, q1].getD k 0, rfl⟩ hP hD hS dX4_init_13
set_option maxHeartbeats 4000000 in
set_option maxRecDepth 100000 in
theorem k_X6_init {l : Launch} {D : va_G} {cy : Nat → ClassId} {ad : Nat → Nat} {base : Nat} {W0 : va_W} {a : Nat} : Met l yX6_init [.code yX6_init cX6_init 1 none] ({ frames := 1, cells := 2, slots := 36, locals := 12 } : Room) (va_Pc [.ref a] (gI l D cy ad base (W0 ++ [(a, .inr (6, [.null, .null, .int 0, .int 0]))]))) (gQI (fun ws2 => ∃ f : Nat → Nat, ws2 = W0 ++ [(a, .inr (6, [.ref (f 1), .ref (f 2), .int 0, .int 0])), (f 1, .inl (cy 0, (16, .inl (fun _ => 0)))), (f 2, .inl (cy 0, (20, .inl (fun _ => 0))))]) D base) 2 36 (gA base) := by
  refine Met.ofW (cc := cX6_init) (maxL := 1) (ret := none) (by decide) rfl ?_
  intro p e s m args below meth c s₁ B hml0 hv
  obtain ⟨rfl, E, NI, hz, hP, hD⟩ := hv
  have F : gF p s m meth c cX6_init RX6 1 none := gF_of B hml0
  obtain ⟨hx, hb, hml, hown, hlocks, hr⟩ := id F
  have hin : meth.name = "<init>" := (name_of_methodNamed B.named B.method).1
  have hS : va_S (gA base) s.heap s.heap [] := va_S.rf
  have hl := lv_entry ([.ref a]) (n := 1) (Nat.le_of_ble_eq_true rfl)
  rw [lg_entry_eq]
  generalize (lg_sl ([.ref a]) ++ List.replicate (1 - (lg_sl ([.ref a])).length) Slot.unset).toArray = ls at hl ⊢
  have hl : lv_has ls 1 [(0, .ref a)] := hl
  refine lv_aload_n hx hb dX6_init_0 rfl (lv_at hl 0 rfl) ?_
  refine W.objInit hx hb hown (E.kw kw_175) (E.kw kw_128) (E.kw kw_129) rfl (by rw [hml]; exact hl.1) rfl dX6_init_1 (Nat.le_of_ble_eq_true rfl) (Nat.le_of_ble_eq_true rfl) ?_
  refine W.eq (g2 := F0 m 4 ls []) rfl ?_
  refine lv_aload_n hx hb dX6_init_4 rfl (lv_at hl 0 rfl) ?_
  refine lv_bipush (v := (16 : Int32)) hx hb dX6_init_5 (by decide) ?_
  refine i_newI hx hb E hP hD hS hz (N := 16) (by decide) (by decide) (by decide) (Nat.le_of_ble_eq_true rfl) (Nat.le_of_ble_eq_true rfl) dX6_init_7 (fun q1 H hP hD hS => ?_)
  rw [List.append_assoc] at hP hD
  have hP : va_P D vwCl (W0 ++ [(a, .inr (6, [.null, .null, .int 0, .int 0])), (q1, .inl (cy 0, (16, .inl (fun _ => 0))))]) H := hP
  have hD : va_D (gA base) (W0 ++ [(a, .inr (6, [.null, .null, .int 0, .int 0])), (q1, .inl (cy 0, (16, .inl (fun _ => 0))))]) := hD
  refine W.widen (k := 1) (n := 16) (Nat.le_of_ble_eq_true rfl) (Nat.le_of_ble_eq_true rfl) ?_
  refine i_putF hx hb hown E hP hD hS hin 0 rfl gC_X6 0 (by decide) rfl rfl (tyX6_ok 0 (by decide)) rfl rfl kw_176 (Nat.le_of_ble_eq_true rfl) dX6_init_9 (fun H locs hP hD hS => ?_)
  have hP : va_P D vwCl (W0 ++ [(a, .inr (6, [.ref q1, .null, .int 0, .int 0])), (q1, .inl (cy 0, (16, .inl (fun _ => 0))))]) H := hP
  have hD : va_D (gA base) (W0 ++ [(a, .inr (6, [.ref q1, .null, .int 0, .int 0])), (q1, .inl (cy 0, (16, .inl (fun _ => 0))))]) := hD
  refine lv_aload_n hx hb dX6_init_12 rfl (lv_at hl 0 rfl) ?_
  refine lv_bipush (v := (20 : Int32)) hx hb dX6_init_13 (by decide) ?_
  refine i_newI hx hb E hP hD hS hz (N := 20) (by decide) (by decide) (by decide) (Nat.le_of_ble_eq_true rfl) (Nat.le_of_ble_eq_true rfl) dX6_init_15 (fun q2 H hP hD hS => ?_)
  rw [List.append_assoc] at hP hD
  have hP : va_P D vwCl (W0 ++ [(a, .inr (6, [.ref q1, .null, .int 0, .int 0])), (q1, .inl (cy 0, (16, .inl (fun _ => 0)))), (q2, .inl (cy 0, (20, .inl (fun _ => 0))))]) H := hP
  have hD : va_D (gA base) (W0 ++ [(a, .inr (6, [.ref q1, .null, .int 0, .int 0])), (q1, .inl (cy 0, (16, .inl (fun _ => 0)))), (q2, .inl (cy 0, (20, .inl (fun _ => 0))))]) := hD
  refine W.widen (k := 2) (n := 36) (Nat.le_of_ble_eq_true rfl) (Nat.le_of_ble_eq_true rfl) ?_
  refine i_putF hx hb hown E hP hD hS hin 0 rfl gC_X6 1 (by decide) rfl rfl (tyX6_ok 1 (by decide)) rfl rfl kw_178 (Nat.le_of_ble_eq_true rfl) dX6_init_17 (fun H locs hP hD hS => ?_)
  have hP : va_P D vwCl (W0 ++ [(a, .inr (6, [.ref q1, .ref q2, .int 0, .int 0])), (q1, .inl (cy 0, (16, .inl (fun _ => 0)))), (q2, .inl (cy 0, (20, .inl (fun _ => 0))))]) H := hP
  have hD : va_D (gA base) (W0 ++ [(a, .inr (6, [.ref q1, .ref q2, .int 0, .int 0])), (q1, .inl (cy 0, (16, .inl (fun _ => 0)))), (q2, .inl (cy 0, (20, .inl (fun _ => 0))))]) := hD
  exact i_vret hx hb hr hlocks ⟨fun k => [a, q1, q2].getD k 0, rfl⟩ hP hD hS dX6_init_20
set_option maxHeartbeats 4000000 in
set_option maxRecDepth 100000 in
theorem k_X0_init {l : Launch} {D : va_G} {cy : Nat → ClassId} {ad : Nat → Nat} {base : Nat} {W0 : va_W} {a : Nat} : Met l yX0_init [.code yX0_init cX0_init 1 none] ({ frames := 1, cells := 7, slots := 185, locals := 12 } : Room) (va_Pc [.ref a] (gI l D cy ad base (W0 ++ [(a, .inr (0, [.null, .null, .int 0, .null, .null, .null, .null, .null]))]))) (gQI (fun ws2 => ∃ f : Nat → Nat, ws2 = W0 ++ [(a, .inr (0, [.ref (f 1), .ref (f 2), .int 0, .ref (f 3), .ref (f 4), .ref (f 5), .ref (f 6), .ref (f 7)])), (f 1, .inl (cy 1, (16, .inr (.inl (fun _ => 0))))), (f 2, .inl (cy 1, (16, .inr (.inl (fun _ => 0))))), (f 3, .inl (cy 0, (16, .inl (fun _ => 0)))), (f 4, .inl (cy 0, (17, .inl (fun _ => 0)))), (f 5, .inl (cy 0, (40, .inl (fun _ => 0)))), (f 6, .inl (cy 0, (40, .inl (fun _ => 0)))), (f 7, .inl (cy 0, (40, .inl (fun _ => 0))))]) D base) 7 185 (gA base) := by
  refine Met.ofW (cc := cX0_init) (maxL := 1) (ret := none) (by decide) rfl ?_
  intro p e s m args below meth c s₁ B hml0 hv
  obtain ⟨rfl, E, NI, hz, hP, hD⟩ := hv
  have F : gF p s m meth c cX0_init RX0 1 none := gF_of B hml0
  obtain ⟨hx, hb, hml, hown, hlocks, hr⟩ := id F
  have hin : meth.name = "<init>" := (name_of_methodNamed B.named B.method).1
  have hS : va_S (gA base) s.heap s.heap [] := va_S.rf
  have hl := lv_entry ([.ref a]) (n := 1) (Nat.le_of_ble_eq_true rfl)
  rw [lg_entry_eq]
  generalize (lg_sl ([.ref a]) ++ List.replicate (1 - (lg_sl ([.ref a])).length) Slot.unset).toArray = ls at hl ⊢
  have hl : lv_has ls 1 [(0, .ref a)] := hl
  refine lv_aload_n hx hb dX0_init_0 rfl (lv_at hl 0 rfl) ?_
  refine W.objInit hx hb hown (E.kw kw_279) (E.kw kw_128) (E.kw kw_129) rfl (by rw [hml]; exact hl.1) rfl dX0_init_1 (Nat.le_of_ble_eq_true rfl) (Nat.le_of_ble_eq_true rfl) ?_
  refine W.eq (g2 := F0 m 4 ls []) rfl ?_
  refine lv_aload_n hx hb dX0_init_4 rfl (lv_at hl 0 rfl) ?_
  refine lv_bipush (v := (16 : Int32)) hx hb dX0_init_5 (by decide) ?_
  refine i_newL hx hb E hP hD hS hz (N := 16) (by decide) (by decide) (by decide) (Nat.le_of_ble_eq_true rfl) (Nat.le_of_ble_eq_true rfl) dX0_init_7 (fun q1 H hP hD hS => ?_)
  rw [List.append_assoc] at hP hD
  have hP : va_P D vwCl (W0 ++ [(a, .inr (0, [.null, .null, .int 0, .null, .null, .null, .null, .null])), (q1, .inl (cy 1, (16, .inr (.inl (fun _ => 0)))))]) H := hP
  have hD : va_D (gA base) (W0 ++ [(a, .inr (0, [.null, .null, .int 0, .null, .null, .null, .null, .null])), (q1, .inl (cy 1, (16, .inr (.inl (fun _ => 0)))))]) := hD
  refine W.widen (k := 1) (n := 16) (Nat.le_of_ble_eq_true rfl) (Nat.le_of_ble_eq_true rfl) ?_
  refine i_putF hx hb hown E hP hD hS hin 0 rfl gC_X0 0 (by decide) rfl rfl (tyX0_ok 0 (by decide)) rfl rfl kw_280 (Nat.le_of_ble_eq_true rfl) dX0_init_9 (fun H locs hP hD hS => ?_)
  have hP : va_P D vwCl (W0 ++ [(a, .inr (0, [.ref q1, .null, .int 0, .null, .null, .null, .null, .null])), (q1, .inl (cy 1, (16, .inr (.inl (fun _ => 0)))))]) H := hP
  have hD : va_D (gA base) (W0 ++ [(a, .inr (0, [.ref q1, .null, .int 0, .null, .null, .null, .null, .null])), (q1, .inl (cy 1, (16, .inr (.inl (fun _ => 0)))))]) := hD
  refine lv_aload_n hx hb dX0_init_12 rfl (lv_at hl 0 rfl) ?_
  refine lv_bipush (v := (16 : Int32)) hx hb dX0_init_13 (by decide) ?_
  refine i_newL hx hb E hP hD hS hz (N := 16) (by decide) (by decide) (by decide) (Nat.le_of_ble_eq_true rfl) (Nat.le_of_ble_eq_true rfl) dX0_init_15 (fun q2 H hP hD hS => ?_)
  rw [List.append_assoc] at hP hD
  have hP : va_P D vwCl (W0 ++ [(a, .inr (0, [.ref q1, .null, .int 0, .null, .null, .null, .null, .null])), (q1, .inl (cy 1, (16, .inr (.inl (fun _ => 0))))), (q2, .inl (cy 1, (16, .inr (.inl (fun _ => 0)))))]) H := hP
  have hD : va_D (gA base) (W0 ++ [(a, .inr (0, [.ref q1, .null, .int 0, .null, .null, .null, .null, .null])), (q1, .inl (cy 1, (16, .inr (.inl (fun _ => 0))))), (q2, .inl (cy 1, (16, .inr (.inl (fun _ => 0)))))]) := hD
  refine W.widen (k := 2) (n := 32) (Nat.le_of_ble_eq_true rfl) (Nat.le_of_ble_eq_true rfl) ?_
  refine i_putF hx hb hown E hP hD hS hin 0 rfl gC_X0 1 (by decide) rfl rfl (tyX0_ok 1 (by decide)) rfl rfl kw_282 (Nat.le_of_ble_eq_true rfl) dX0_init_17 (fun H locs hP hD hS => ?_)
  have hP : va_P D vwCl (W0 ++ [(a, .inr (0, [.ref q1, .ref q2, .int 0, .null, .null, .null, .null, .null])), (q1, .inl (cy 1, (16, .inr (.inl (fun _ => 0))))), (q2, .inl (cy 1, (16, .inr (.inl (fun _ => 0)))))]) H := hP
  have hD : va_D (gA base) (W0 ++ [(a, .inr (0, [.ref q1, .ref q2, .int 0, .null, .null, .null, .null, .null])), (q1, .inl (cy 1, (16, .inr (.inl (fun _ => 0))))), (q2, .inl (cy 1, (16, .inr (.inl (fun _ => 0)))))]) := hD
  refine lv_aload_n hx hb dX0_init_20 rfl (lv_at hl 0 rfl) ?_
  refine lv_bipush (v := (16 : Int32)) hx hb dX0_init_21 (by decide) ?_
  refine i_newI hx hb E hP hD hS hz (N := 16) (by decide) (by decide) (by decide) (Nat.le_of_ble_eq_true rfl) (Nat.le_of_ble_eq_true rfl) dX0_init_23 (fun q3 H hP hD hS => ?_)
  rw [List.append_assoc] at hP hD
  have hP : va_P D vwCl (W0 ++ [(a, .inr (0, [.ref q1, .ref q2, .int 0, .null, .null, .null, .null, .null])), (q1, .inl (cy 1, (16, .inr (.inl (fun _ => 0))))), (q2, .inl (cy 1, (16, .inr (.inl (fun _ => 0))))), (q3, .inl (cy 0, (16, .inl (fun _ => 0))))]) H := hP
  have hD : va_D (gA base) (W0 ++ [(a, .inr (0, [.ref q1, .ref q2, .int 0, .null, .null, .null, .null, .null])), (q1, .inl (cy 1, (16, .inr (.inl (fun _ => 0))))), (q2, .inl (cy 1, (16, .inr (.inl (fun _ => 0))))), (q3, .inl (cy 0, (16, .inl (fun _ => 0))))]) := hD
  refine W.widen (k := 3) (n := 48) (Nat.le_of_ble_eq_true rfl) (Nat.le_of_ble_eq_true rfl) ?_
  refine i_putF hx hb hown E hP hD hS hin 0 rfl gC_X0 3 (by decide) rfl rfl (tyX0_ok 3 (by decide)) rfl rfl kw_287 (Nat.le_of_ble_eq_true rfl) dX0_init_25 (fun H locs hP hD hS => ?_)
  have hP : va_P D vwCl (W0 ++ [(a, .inr (0, [.ref q1, .ref q2, .int 0, .ref q3, .null, .null, .null, .null])), (q1, .inl (cy 1, (16, .inr (.inl (fun _ => 0))))), (q2, .inl (cy 1, (16, .inr (.inl (fun _ => 0))))), (q3, .inl (cy 0, (16, .inl (fun _ => 0))))]) H := hP
  have hD : va_D (gA base) (W0 ++ [(a, .inr (0, [.ref q1, .ref q2, .int 0, .ref q3, .null, .null, .null, .null])), (q1, .inl (cy 1, (16, .inr (.inl (fun _ => 0))))), (q2, .inl (cy 1, (16, .inr (.inl (fun _ => 0))))), (q3, .inl (cy 0, (16, .inl (fun _ => 0))))]) := hD
  refine lv_aload_n hx hb dX0_init_28 rfl (lv_at hl 0 rfl) ?_
  refine lv_bipush (v := (17 : Int32)) hx hb dX0_init_29 (by decide) ?_
  refine i_newI hx hb E hP hD hS hz (N := 17) (by decide) (by decide) (by decide) (Nat.le_of_ble_eq_true rfl) (Nat.le_of_ble_eq_true rfl) dX0_init_31 (fun q4 H hP hD hS => ?_)
  rw [List.append_assoc] at hP hD
  have hP : va_P D vwCl (W0 ++ [(a, .inr (0, [.ref q1, .ref q2, .int 0, .ref q3, .null, .null, .null, .null])), (q1, .inl (cy 1, (16, .inr (.inl (fun _ => 0))))), (q2, .inl (cy 1, (16, .inr (.inl (fun _ => 0))))), (q3, .inl (cy 0, (16, .inl (fun _ => 0)))), (q4, .inl (cy 0, (17, .inl (fun _ => 0))))]) H := hP
  have hD : va_D (gA base) (W0 ++ [(a, .inr (0, [.ref q1, .ref q2, .int 0, .ref q3, .null, .null, .null, .null])), (q1, .inl (cy 1, (16, .inr (.inl (fun _ => 0))))), (q2, .inl (cy 1, (16, .inr (.inl (fun _ => 0))))), (q3, .inl (cy 0, (16, .inl (fun _ => 0)))), (q4, .inl (cy 0, (17, .inl (fun _ => 0))))]) := hD
  refine W.widen (k := 4) (n := 65) (Nat.le_of_ble_eq_true rfl) (Nat.le_of_ble_eq_true rfl) ?_
  refine i_putF hx hb hown E hP hD hS hin 0 rfl gC_X0 4 (by decide) rfl rfl (tyX0_ok 4 (by decide)) rfl rfl kw_288 (Nat.le_of_ble_eq_true rfl) dX0_init_33 (fun H locs hP hD hS => ?_)
  have hP : va_P D vwCl (W0 ++ [(a, .inr (0, [.ref q1, .ref q2, .int 0, .ref q3, .ref q4, .null, .null, .null])), (q1, .inl (cy 1, (16, .inr (.inl (fun _ => 0))))), (q2, .inl (cy 1, (16, .inr (.inl (fun _ => 0))))), (q3, .inl (cy 0, (16, .inl (fun _ => 0)))), (q4, .inl (cy 0, (17, .inl (fun _ => 0))))]) H := hP
  have hD : va_D (gA base) (W0 ++ [(a, .inr (0, [.ref q1, .ref q2, .int 0, .ref q3, .ref q4, .null, .null, .null])), (q1, .inl (cy 1, (16, .inr (.inl (fun _ => 0))))), (q2, .inl (cy 1, (16, .inr (.inl (fun _ => 0))))), (q3, .inl (cy 0, (16, .inl (fun _ => 0)))), (q4, .inl (cy 0, (17, .inl (fun _ => 0))))]) := hD
  refine lv_aload_n hx hb dX0_init_36 rfl (lv_at hl 0 rfl) ?_
  refine lv_bipush (v := (40 : Int32)) hx hb dX0_init_37 (by decide) ?_
  refine i_newI hx hb E hP hD hS hz (N := 40) (by decide) (by decide) (by decide) (Nat.le_of_ble_eq_true rfl) (Nat.le_of_ble_eq_true rfl) dX0_init_39 (fun q5 H hP hD hS => ?_)
  rw [List.append_assoc] at hP hD
  have hP : va_P D vwCl (W0 ++ [(a, .inr (0, [.ref q1, .ref q2, .int 0, .ref q3, .ref q4, .null, .null, .null])), (q1, .inl (cy 1, (16, .inr (.inl (fun _ => 0))))), (q2, .inl (cy 1, (16, .inr (.inl (fun _ => 0))))), (q3, .inl (cy 0, (16, .inl (fun _ => 0)))), (q4, .inl (cy 0, (17, .inl (fun _ => 0)))), (q5, .inl (cy 0, (40, .inl (fun _ => 0))))]) H := hP
  have hD : va_D (gA base) (W0 ++ [(a, .inr (0, [.ref q1, .ref q2, .int 0, .ref q3, .ref q4, .null, .null, .null])), (q1, .inl (cy 1, (16, .inr (.inl (fun _ => 0))))), (q2, .inl (cy 1, (16, .inr (.inl (fun _ => 0))))), (q3, .inl (cy 0, (16, .inl (fun _ => 0)))), (q4, .inl (cy 0, (17, .inl (fun _ => 0)))), (q5, .inl (cy 0, (40, .inl (fun _ => 0))))]) := hD
  refine W.widen (k := 5) (n := 105) (Nat.le_of_ble_eq_true rfl) (Nat.le_of_ble_eq_true rfl) ?_
  refine i_putF hx hb hown E hP hD hS hin 0 rfl gC_X0 5 (by decide) rfl rfl (tyX0_ok 5 (by decide)) rfl rfl kw_289 (Nat.le_of_ble_eq_true rfl) dX0_init_41 (fun H locs hP hD hS => ?_)
  have hP : va_P D vwCl (W0 ++ [(a, .inr (0, [.ref q1, .ref q2, .int 0, .ref q3, .ref q4, .ref q5, .null, .null])), (q1, .inl (cy 1, (16, .inr (.inl (fun _ => 0))))), (q2, .inl (cy 1, (16, .inr (.inl (fun _ => 0))))), (q3, .inl (cy 0, (16, .inl (fun _ => 0)))), (q4, .inl (cy 0, (17, .inl (fun _ => 0)))), (q5, .inl (cy 0, (40, .inl (fun _ => 0))))]) H := hP
  have hD : va_D (gA base) (W0 ++ [(a, .inr (0, [.ref q1, .ref q2, .int 0, .ref q3, .ref q4, .ref q5, .null, .null])), (q1, .inl (cy 1, (16, .inr (.inl (fun _ => 0))))), (q2, .inl (cy 1, (16, .inr (.inl (fun _ => 0))))), (q3, .inl (cy 0, (16, .inl (fun _ => 0)))), (q4, .inl (cy 0, (17, .inl (fun _ => 0)))), (q5, .inl (cy 0, (40, .inl (fun _ => 0))))]) := hD
  refine lv_aload_n hx hb dX0_init_44 rfl (lv_at hl 0 rfl) ?_
  refine lv_bipush (v := (40 : Int32)) hx hb dX0_init_45 (by decide) ?_
  refine i_newI hx hb E hP hD hS hz (N := 40) (by decide) (by decide) (by decide) (Nat.le_of_ble_eq_true rfl) (Nat.le_of_ble_eq_true rfl) dX0_init_47 (fun q6 H hP hD hS => ?_)
  rw [List.append_assoc] at hP hD
  have hP : va_P D vwCl (W0 ++ [(a, .inr (0, [.ref q1, .ref q2, .int 0, .ref q3, .ref q4, .ref q5, .null, .null])), (q1, .inl (cy 1, (16, .inr (.inl (fun _ => 0))))), (q2, .inl (cy 1, (16, .inr (.inl (fun _ => 0))))), (q3, .inl (cy 0, (16, .inl (fun _ => 0)))), (q4, .inl (cy 0, (17, .inl (fun _ => 0)))), (q5, .inl (cy 0, (40, .inl (fun _ => 0)))), (q6, .inl (cy 0, (40, .inl (fun _ => 0))))]) H := hP
  have hD : va_D (gA base) (W0 ++ [(a, .inr (0, [.ref q1, .ref q2, .int 0, .ref q3, .ref q4, .ref q5, .null, .null])), (q1, .inl (cy 1, (16, .inr (.inl (fun _ => 0))))), (q2, .inl (cy 1, (16, .inr (.inl (fun _ => 0))))), (q3, .inl (cy 0, (16, .inl (fun _ => 0)))), (q4, .inl (cy 0, (17, .inl (fun _ => 0)))), (q5, .inl (cy 0, (40, .inl (fun _ => 0)))), (q6, .inl (cy 0, (40, .inl (fun _ => 0))))]) := hD
  refine W.widen (k := 6) (n := 145) (Nat.le_of_ble_eq_true rfl) (Nat.le_of_ble_eq_true rfl) ?_
  refine i_putF hx hb hown E hP hD hS hin 0 rfl gC_X0 6 (by decide) rfl rfl (tyX0_ok 6 (by decide)) rfl rfl kw_290 (Nat.le_of_ble_eq_true rfl) dX0_init_49 (fun H locs hP hD hS => ?_)
  have hP : va_P D vwCl (W0 ++ [(a, .inr (0, [.ref q1, .ref q2, .int 0, .ref q3, .ref q4, .ref q5, .ref q6, .null])), (q1, .inl (cy 1, (16, .inr (.inl (fun _ => 0))))), (q2, .inl (cy 1, (16, .inr (.inl (fun _ => 0))))), (q3, .inl (cy 0, (16, .inl (fun _ => 0)))), (q4, .inl (cy 0, (17, .inl (fun _ => 0)))), (q5, .inl (cy 0, (40, .inl (fun _ => 0)))), (q6, .inl (cy 0, (40, .inl (fun _ => 0))))]) H := hP
  have hD : va_D (gA base) (W0 ++ [(a, .inr (0, [.ref q1, .ref q2, .int 0, .ref q3, .ref q4, .ref q5, .ref q6, .null])), (q1, .inl (cy 1, (16, .inr (.inl (fun _ => 0))))), (q2, .inl (cy 1, (16, .inr (.inl (fun _ => 0))))), (q3, .inl (cy 0, (16, .inl (fun _ => 0)))), (q4, .inl (cy 0, (17, .inl (fun _ => 0)))), (q5, .inl (cy 0, (40, .inl (fun _ => 0)))), (q6, .inl (cy 0, (40, .inl (fun _ => 0))))]) := hD
  refine lv_aload_n hx hb dX0_init_52 rfl (lv_at hl 0 rfl) ?_
  refine lv_bipush (v := (40 : Int32)) hx hb dX0_init_53 (by decide) ?_
  refine i_newI hx hb E hP hD hS hz (N := 40) (by decide) (by decide) (by decide) (Nat.le_of_ble_eq_true rfl) (Nat.le_of_ble_eq_true rfl) dX0_init_55 (fun q7 H hP hD hS => ?_)
  rw [List.append_assoc] at hP hD
  have hP : va_P D vwCl (W0 ++ [(a, .inr (0, [.ref q1, .ref q2, .int 0, .ref q3, .ref q4, .ref q5, .ref q6, .null])), (q1, .inl (cy 1, (16, .inr (.inl (fun _ => 0))))), (q2, .inl (cy 1, (16, .inr (.inl (fun _ => 0))))), (q3, .inl (cy 0, (16, .inl (fun _ => 0)))), (q4, .inl (cy 0, (17, .inl (fun _ => 0)))), (q5, .inl (cy 0, (40, .inl (fun _ => 0)))), (q6, .inl (cy 0, (40, .inl (fun _ => 0)))), (q7, .inl (cy 0, (40, .inl (fun _ => 0))))]) H := hP
  have hD : va_D (gA base) (W0 ++ [(a, .inr (0, [.ref q1, .ref q2, .int 0, .ref q3, .ref q4, .ref q5, .ref q6, .null])), (q1, .inl (cy 1, (16, .inr (.inl (fun _ => 0))))), (q2, .inl (cy 1, (16, .inr (.inl (fun _ => 0))))), (q3, .inl (cy 0, (16, .inl (fun _ => 0)))), (q4, .inl (cy 0, (17, .inl (fun _ => 0)))), (q5, .inl (cy 0, (40, .inl (fun _ => 0)))), (q6, .inl (cy 0, (40, .inl (fun _ => 0)))), (q7, .inl (cy 0, (40, .inl (fun _ => 0))))]) := hD
  refine W.widen (k := 7) (n := 185) (Nat.le_of_ble_eq_true rfl) (Nat.le_of_ble_eq_true rfl) ?_
  refine i_putF hx hb hown E hP hD hS hin 0 rfl gC_X0 7 (by decide) rfl rfl (tyX0_ok 7 (by decide)) rfl rfl kw_291 (Nat.le_of_ble_eq_true rfl) dX0_init_57 (fun H locs hP hD hS => ?_)
  have hP : va_P D vwCl (W0 ++ [(a, .inr (0, [.ref q1, .ref q2, .int 0, .ref q3, .ref q4, .ref q5, .ref q6, .ref q7])), (q1, .inl (cy 1, (16, .inr (.inl (fun _ => 0))))), (q2, .inl (cy 1, (16, .inr (.inl (fun _ => 0))))), (q3, .inl (cy 0, (16, .inl (fun _ => 0)))), (q4, .inl (cy 0, (17, .inl (fun _ => 0)))), (q5, .inl (cy 0, (40, .inl (fun _ => 0)))), (q6, .inl (cy 0, (40, .inl (fun _ => 0)))), (q7, .inl (cy 0, (40, .inl (fun _ => 0))))]) H := hP
  have hD : va_D (gA base) (W0 ++ [(a, .inr (0, [.ref q1, .ref q2, .int 0, .ref q3, .ref q4, .ref q5, .ref q6, .ref q7])), (q1, .inl (cy 1, (16, .inr (.inl (fun _ => 0))))), (q2, .inl (cy 1, (16, .inr (.inl (fun _ => 0))))), (q3, .inl (cy 0, (16, .inl (fun _ => 0)))), (q4, .inl (cy 0, (17, .inl (fun _ => 0)))), (q5, .inl (cy 0, (40, .inl (fun _ => 0)))), (q6, .inl (cy 0, (40, .inl (fun _ => 0)))), (q7, .inl (cy 0, (40, .inl (fun _ => 0))))]) := hD
  exact i_vret hx hb hr hlocks ⟨fun k => [a, q1, q2, q3, q4, q5, q6, q7].getD k 0, rfl⟩ hP hD hS dX0_init_60
set_option maxHeartbeats 4000000 in
set_option maxRecDepth 100000 in
theorem k_X1_init {l : Launch} {D : va_G} {cy : Nat → ClassId} {ad : Nat → Nat} {base : Nat} {W0 : va_W} {a : Nat} : Met l yX1_init [.code yX1_init cX1_init 1 none] ({ frames := 1, cells := 5, slots := 160, locals := 12 } : Room) (va_Pc [.ref a] (gI l D cy ad base (W0 ++ [(a, .inr (1, [.int 0, .int 0, .null, .null, .null, .null, .null]))]))) (gQI (fun ws2 => ∃ f : Nat → Nat, ws2 = W0 ++ [(a, .inr (1, [.int 0, .int 0, .ref (f 1), .ref (f 2), .ref (f 3), .ref (f 4), .ref (f 5)])), (f 1, .inl (cy 0, (8, .inl (fun _ => 0)))), (f 2, .inl (cy 0, (8, .inl (fun _ => 0)))), (f 3, .inl (cy 0, (8, .inl (fun _ => 0)))), (f 4, .inl (cy 3, (8, .inl (fun _ => 0)))), (f 5, .inl (cy 1, (128, .inr (.inl (fun _ => 0)))))]) D base) 5 160 (gA base) := by
  refine Met.ofW (cc := cX1_init) (maxL := 1) (ret := none) (by decide) rfl ?_
  intro p e s m args below meth c s₁ B hml0 hv
  obtain ⟨rfl, E, NI, hz, hP, hD⟩ := hv
  have F : gF p s m meth c cX1_init RX1 1 none := gF_of B hml0
  obtain ⟨hx, hb, hml, hown, hlocks, hr⟩ := id F
  have hin : meth.name = "<init>" := (name_of_methodNamed B.named B.method).1
  have hS : va_S (gA base) s.heap s.heap [] := va_S.rf
  have hl := lv_entry ([.ref a]) (n := 1) (Nat.le_of_ble_eq_true rfl)
  rw [lg_entry_eq]
  generalize (lg_sl ([.ref a]) ++ List.replicate (1 - (lg_sl ([.ref a])).length) Slot.unset).toArray = ls at hl ⊢
  have hl : lv_has ls 1 [(0, .ref a)] := hl
  refine lv_aload_n hx hb dX1_init_0 rfl (lv_at hl 0 rfl) ?_
  refine W.objInit hx hb hown (E.kw kw_315) (E.kw kw_128) (E.kw kw_129) rfl (by rw [hml]; exact hl.1) rfl dX1_init_1 (Nat.le_of_ble_eq_true rfl) (Nat.le_of_ble_eq_true rfl) ?_
  refine W.eq (g2 := F0 m 4 ls []) rfl ?_
  refine lv_aload_n hx hb dX1_init_4 rfl (lv_at hl 0 rfl) ?_
  refine lv_bipush (v := (8 : Int32)) hx hb dX1_init_5 (by decide) ?_
  refine i_newI hx hb E hP hD hS hz (N := 8) (by decide) (by decide) (by decide) (Nat.le_of_ble_eq_true rfl) (Nat.le_of_ble_eq_true rfl) dX1_init_7 (fun q1 H hP hD hS => ?_)
  rw [List.append_assoc] at hP hD
  have hP : va_P D vwCl (W0 ++ [(a, .inr (1, [.int 0, .int 0, .null, .null, .null, .null, .null])), (q1, .inl (cy 0, (8, .inl (fun _ => 0))))]) H := hP
  have hD : va_D (gA base) (W0 ++ [(a, .inr (1, [.int 0, .int 0, .null, .null, .null, .null, .null])), (q1, .inl (cy 0, (8, .inl (fun _ => 0))))]) := hD
  refine W.widen (k := 1) (n := 8) (Nat.le_of_ble_eq_true rfl) (Nat.le_of_ble_eq_true rfl) ?_
  refine i_putF hx hb hown E hP hD hS hin 0 rfl gC_X1 2 (by decide) rfl rfl (tyX1_ok 2 (by decide)) rfl rfl kw_319 (Nat.le_of_ble_eq_true rfl) dX1_init_9 (fun H locs hP hD hS => ?_)
  have hP : va_P D vwCl (W0 ++ [(a, .inr (1, [.int 0, .int 0, .ref q1, .null, .null, .null, .null])), (q1, .inl (cy 0, (8, .inl (fun _ => 0))))]) H := hP
  have hD : va_D (gA base) (W0 ++ [(a, .inr (1, [.int 0, .int 0, .ref q1, .null, .null, .null, .null])), (q1, .inl (cy 0, (8, .inl (fun _ => 0))))]) := hD
  refine lv_aload_n hx hb dX1_init_12 rfl (lv_at hl 0 rfl) ?_
  refine lv_bipush (v := (8 : Int32)) hx hb dX1_init_13 (by decide) ?_
  refine i_newI hx hb E hP hD hS hz (N := 8) (by decide) (by decide) (by decide) (Nat.le_of_ble_eq_true rfl) (Nat.le_of_ble_eq_true rfl) dX1_init_15 (fun q2 H hP hD hS => ?_)
  rw [List.append_assoc] at hP hD
  have hP : va_P D vwCl (W0 ++ [(a, .inr (1, [.int 0, .int 0, .ref q1, .null, .null, .null, .null])), (q1, .inl (cy 0, (8, .inl (fun _ => 0)))), (q2, .inl (cy 0, (8, .inl (fun _ => 0))))]) H := hP
  have hD : va_D (gA base) (W0 ++ [(a, .inr (1, [.int 0, .int 0, .ref q1, .null, .null, .null, .null])), (q1, .inl (cy 0, (8, .inl (fun _ => 0)))), (q2, .inl (cy 0, (8, .inl (fun _ => 0))))]) := hD
  refine W.widen (k := 2) (n := 16) (Nat.le_of_ble_eq_true rfl) (Nat.le_of_ble_eq_true rfl) ?_
  refine i_putF hx hb hown E hP hD hS hin 0 rfl gC_X1 3 (by decide) rfl rfl (tyX1_ok 3 (by decide)) rfl rfl kw_320 (Nat.le_of_ble_eq_true rfl) dX1_init_17 (fun H locs hP hD hS => ?_)
  have hP : va_P D vwCl (W0 ++ [(a, .inr (1, [.int 0, .int 0, .ref q1, .ref q2, .null, .null, .null])), (q1, .inl (cy 0, (8, .inl (fun _ => 0)))), (q2, .inl (cy 0, (8, .inl (fun _ => 0))))]) H := hP
  have hD : va_D (gA base) (W0 ++ [(a, .inr (1, [.int 0, .int 0, .ref q1, .ref q2, .null, .null, .null])), (q1, .inl (cy 0, (8, .inl (fun _ => 0)))), (q2, .inl (cy 0, (8, .inl (fun _ => 0))))]) := hD
  refine lv_aload_n hx hb dX1_init_20 rfl (lv_at hl 0 rfl) ?_
  refine lv_bipush (v := (8 : Int32)) hx hb dX1_init_21 (by decide) ?_
  refine i_newI hx hb E hP hD hS hz (N := 8) (by decide) (by decide) (by decide) (Nat.le_of_ble_eq_true rfl) (Nat.le_of_ble_eq_true rfl) dX1_init_23 (fun q3 H hP hD hS => ?_)
  rw [List.append_assoc] at hP hD
  have hP : va_P D vwCl (W0 ++ [(a, .inr (1, [.int 0, .int 0, .ref q1, .ref q2, .null, .null, .null])), (q1, .inl (cy 0, (8, .inl (fun _ => 0)))), (q2, .inl (cy 0, (8, .inl (fun _ => 0)))), (q3, .inl (cy 0, (8, .inl (fun _ => 0))))]) H := hP
  have hD : va_D (gA base) (W0 ++ [(a, .inr (1, [.int 0, .int 0, .ref q1, .ref q2, .null, .null, .null])), (q1, .inl (cy 0, (8, .inl (fun _ => 0)))), (q2, .inl (cy 0, (8, .inl (fun _ => 0)))), (q3, .inl (cy 0, (8, .inl (fun _ => 0))))]) := hD
  refine W.widen (k := 3) (n := 24) (Nat.le_of_ble_eq_true rfl) (Nat.le_of_ble_eq_true rfl) ?_
  refine i_putF hx hb hown E hP hD hS hin 0 rfl gC_X1 4 (by decide) rfl rfl (tyX1_ok 4 (by decide)) rfl rfl kw_321 (Nat.le_of_ble_eq_true rfl) dX1_init_25 (fun H locs hP hD hS => ?_)
  have hP : va_P D vwCl (W0 ++ [(a, .inr (1, [.int 0, .int 0, .ref q1, .ref q2, .ref q3, .null, .null])), (q1, .inl (cy 0, (8, .inl (fun _ => 0)))), (q2, .inl (cy 0, (8, .inl (fun _ => 0)))), (q3, .inl (cy 0, (8, .inl (fun _ => 0))))]) H := hP
  have hD : va_D (gA base) (W0 ++ [(a, .inr (1, [.int 0, .int 0, .ref q1, .ref q2, .ref q3, .null, .null])), (q1, .inl (cy 0, (8, .inl (fun _ => 0)))), (q2, .inl (cy 0, (8, .inl (fun _ => 0)))), (q3, .inl (cy 0, (8, .inl (fun _ => 0))))]) := hD
  refine lv_aload_n hx hb dX1_init_28 rfl (lv_at hl 0 rfl) ?_
  refine lv_bipush (v := (8 : Int32)) hx hb dX1_init_29 (by decide) ?_
  refine i_newZ hx hb E hP hD hS hz (N := 8) (by decide) (by decide) (by decide) (Nat.le_of_ble_eq_true rfl) (Nat.le_of_ble_eq_true rfl) dX1_init_31 (fun q4 H hP hD hS => ?_)
  rw [List.append_assoc] at hP hD
  have hP : va_P D vwCl (W0 ++ [(a, .inr (1, [.int 0, .int 0, .ref q1, .ref q2, .ref q3, .null, .null])), (q1, .inl (cy 0, (8, .inl (fun _ => 0)))), (q2, .inl (cy 0, (8, .inl (fun _ => 0)))), (q3, .inl (cy 0, (8, .inl (fun _ => 0)))), (q4, .inl (cy 3, (8, .inl (fun _ => 0))))]) H := hP
  have hD : va_D (gA base) (W0 ++ [(a, .inr (1, [.int 0, .int 0, .ref q1, .ref q2, .ref q3, .null, .null])), (q1, .inl (cy 0, (8, .inl (fun _ => 0)))), (q2, .inl (cy 0, (8, .inl (fun _ => 0)))), (q3, .inl (cy 0, (8, .inl (fun _ => 0)))), (q4, .inl (cy 3, (8, .inl (fun _ => 0))))]) := hD
  refine W.widen (k := 4) (n := 32) (Nat.le_of_ble_eq_true rfl) (Nat.le_of_ble_eq_true rfl) ?_
  refine i_putF hx hb hown E hP hD hS hin 0 rfl gC_X1 5 (by decide) rfl rfl (tyX1_ok 5 (by decide)) rfl rfl kw_322 (Nat.le_of_ble_eq_true rfl) dX1_init_33 (fun H locs hP hD hS => ?_)
  have hP : va_P D vwCl (W0 ++ [(a, .inr (1, [.int 0, .int 0, .ref q1, .ref q2, .ref q3, .ref q4, .null])), (q1, .inl (cy 0, (8, .inl (fun _ => 0)))), (q2, .inl (cy 0, (8, .inl (fun _ => 0)))), (q3, .inl (cy 0, (8, .inl (fun _ => 0)))), (q4, .inl (cy 3, (8, .inl (fun _ => 0))))]) H := hP
  have hD : va_D (gA base) (W0 ++ [(a, .inr (1, [.int 0, .int 0, .ref q1, .ref q2, .ref q3, .ref q4, .null])), (q1, .inl (cy 0, (8, .inl (fun _ => 0)))), (q2, .inl (cy 0, (8, .inl (fun _ => 0)))), (q3, .inl (cy 0, (8, .inl (fun _ => 0)))), (q4, .inl (cy 3, (8, .inl (fun _ => 0))))]) := hD
  refine lv_aload_n hx hb dX1_init_36 rfl (lv_at hl 0 rfl) ?_
  refine lv_sipush (v := (128 : Int32)) hx hb dX1_init_37 (by decide) ?_
  refine i_newL hx hb E hP hD hS hz (N := 128) (by decide) (by decide) (by decide) (Nat.le_of_ble_eq_true rfl) (Nat.le_of_ble_eq_true rfl) dX1_init_40 (fun q5 H hP hD hS => ?_)
  rw [List.append_assoc] at hP hD
  have hP : va_P D vwCl (W0 ++ [(a, .inr (1, [.int 0, .int 0, .ref q1, .ref q2, .ref q3, .ref q4, .null])), (q1, .inl (cy 0, (8, .inl (fun _ => 0)))), (q2, .inl (cy 0, (8, .inl (fun _ => 0)))), (q3, .inl (cy 0, (8, .inl (fun _ => 0)))), (q4, .inl (cy 3, (8, .inl (fun _ => 0)))), (q5, .inl (cy 1, (128, .inr (.inl (fun _ => 0)))))]) H := hP
  have hD : va_D (gA base) (W0 ++ [(a, .inr (1, [.int 0, .int 0, .ref q1, .ref q2, .ref q3, .ref q4, .null])), (q1, .inl (cy 0, (8, .inl (fun _ => 0)))), (q2, .inl (cy 0, (8, .inl (fun _ => 0)))), (q3, .inl (cy 0, (8, .inl (fun _ => 0)))), (q4, .inl (cy 3, (8, .inl (fun _ => 0)))), (q5, .inl (cy 1, (128, .inr (.inl (fun _ => 0)))))]) := hD
  refine W.widen (k := 5) (n := 160) (Nat.le_of_ble_eq_true rfl) (Nat.le_of_ble_eq_true rfl) ?_
  refine i_putF hx hb hown E hP hD hS hin 0 rfl gC_X1 6 (by decide) rfl rfl (tyX1_ok 6 (by decide)) rfl rfl kw_323 (Nat.le_of_ble_eq_true rfl) dX1_init_42 (fun H locs hP hD hS => ?_)
  have hP : va_P D vwCl (W0 ++ [(a, .inr (1, [.int 0, .int 0, .ref q1, .ref q2, .ref q3, .ref q4, .ref q5])), (q1, .inl (cy 0, (8, .inl (fun _ => 0)))), (q2, .inl (cy 0, (8, .inl (fun _ => 0)))), (q3, .inl (cy 0, (8, .inl (fun _ => 0)))), (q4, .inl (cy 3, (8, .inl (fun _ => 0)))), (q5, .inl (cy 1, (128, .inr (.inl (fun _ => 0)))))]) H := hP
  have hD : va_D (gA base) (W0 ++ [(a, .inr (1, [.int 0, .int 0, .ref q1, .ref q2, .ref q3, .ref q4, .ref q5])), (q1, .inl (cy 0, (8, .inl (fun _ => 0)))), (q2, .inl (cy 0, (8, .inl (fun _ => 0)))), (q3, .inl (cy 0, (8, .inl (fun _ => 0)))), (q4, .inl (cy 3, (8, .inl (fun _ => 0)))), (q5, .inl (cy 1, (128, .inr (.inl (fun _ => 0)))))]) := hD
  exact i_vret hx hb hr hlocks ⟨fun k => [a, q1, q2, q3, q4, q5].getD k 0, rfl⟩ hP hD hS dX1_init_45
set_option maxHeartbeats 4000000 in
set_option maxRecDepth 100000 in
theorem k_X3_clear {l : Launch} {D : va_G} {cy : Nat → ClassId} {ad : Nat → Nat} {base : Nat} {W0 : va_W} {a : Nat} {f : Nat → Nat} : Met l yX3_clear [.code yX3_clear cX3_clear 2 none] ({ frames := 1, cells := 0, slots := 0, locals := 12 } : Room) (va_Pc [.ref a] (gI l D cy ad base (W0 ++ [(a, .inr (3, [.int 0, .int 0, .int 0, .int 0, .int 0, .ref (f 1), .ref (f 2), .ref (f 3), .ref (f 4), .ref (f 5), .ref (f 6), .ref (f 7), .ref (f 8), .ref (f 9), .ref (f 10), .ref (f 11), .ref (f 12)])), (f 1, .inl (cy 0, (3, .inl (fun _ => 0)))), (f 2, .inl (cy 0, (3, .inl (fun _ => 0)))), (f 3, .inl (cy 0, (3, .inl (fun _ => 0)))), (f 4, .inl (cy 0, (16, .inl (fun _ => 0)))), (f 5, .inl (cy 0, (16, .inl (fun _ => 0)))), (f 6, .inl (cy 0, (20, .inl (fun _ => 0)))), (f 7, .inl (cy 0, (20, .inl (fun _ => 0)))), (f 8, .inl (cy 0, (20, .inl (fun _ => 0)))), (f 9, .inl (cy 0, (20, .inl (fun _ => 0)))), (f 10, .inl (cy 0, (640, .inl (fun _ => 0)))), (f 11, .inl (cy 0, (6, .inl (fun _ => 0)))), (f 12, .inl (cy 0, (48, .inl (fun _ => 0))))]))) (gQI (fun ws2 => ws2 = W0 ++ [(a, .inr (3, [.int (0 : Int32), .int (0 : Int32), .int (0 : Int32), .int (0 : Int32), .int (0 : Int32), .ref (f 1), .ref (f 2), .ref (f 3), .ref (f 4), .ref (f 5), .ref (f 6), .ref (f 7), .ref (f 8), .ref (f 9), .ref (f 10), .ref (f 11), .ref (f 12)])), (f 1, .inl (cy 0, (3, .inl (upd (upd (upd (fun _ => 0) (0 : Int32).toNatClampNeg (sc 4 (0 : Int32).toNatClampNeg)) (1 : Int32).toNatClampNeg (sc 4 (1 : Int32).toNatClampNeg)) (2 : Int32).toNatClampNeg (sc 4 (2 : Int32).toNatClampNeg))))), (f 2, .inl (cy 0, (3, .inl (fun _ => 0)))), (f 3, .inl (cy 0, (3, .inl (fun _ => 0)))), (f 4, .inl (cy 0, (16, .inl (fun _ => 0)))), (f 5, .inl (cy 0, (16, .inl (fun _ => 0)))), (f 6, .inl (cy 0, (20, .inl (fun _ => 0)))), (f 7, .inl (cy 0, (20, .inl (fun _ => 0)))), (f 8, .inl (cy 0, (20, .inl (fun _ => 0)))), (f 9, .inl (cy 0, (20, .inl (fun _ => 0)))), (f 10, .inl (cy 0, (640, .inl (fun _ => 0)))), (f 11, .inl (cy 0, (6, .inl (fun _ => 0)))), (f 12, .inl (cy 0, (48, .inl (fun _ => 0))))]) D base) 0 0 (gA base) := by
  refine Met.ofW (cc := cX3_clear) (maxL := 2) (ret := none) (by decide) rfl ?_
  intro p e s m args below meth c s₁ B hml0 hv
  obtain ⟨rfl, E, NI, hz, hP, hD⟩ := hv
  have F : gF p s m meth c cX3_clear RX3 2 none := gF_of B hml0
  obtain ⟨hx, hb, hml, hown, hlocks, hr⟩ := id F
  have hS : va_S (gA base) s.heap s.heap [] := va_S.rf
  have hl := lv_entry ([.ref a]) (n := 2) (Nat.le_of_ble_eq_true rfl)
  rw [lg_entry_eq]
  generalize (lg_sl ([.ref a]) ++ List.replicate (2 - (lg_sl ([.ref a])).length) Slot.unset).toArray = ls at hl ⊢
  have hl : lv_has ls 2 [(0, .ref a)] := hl
  refine lv_aload_n hx hb dX3_clear_0 rfl (lv_at hl 0 rfl) ?_
  refine lv_iconst (v := (0 : Int32)) hx hb dX3_clear_1 (by decide) ?_
  refine i_putN hx hb hown E hP hD hS 0 rfl gC_X3 0 (by decide) rfl (tyX3_ok 0 (by decide)) rfl rfl kw_352 (Nat.le_of_ble_eq_true rfl) dX3_clear_2 (fun H locs hP hD hS => ?_)
  have hP : va_P D vwCl (W0 ++ [(a, .inr (3, [.int (0 : Int32), .int 0, .int 0, .int 0, .int 0, .ref (f 1), .ref (f 2), .ref (f 3), .ref (f 4), .ref (f 5), .ref (f 6), .ref (f 7), .ref (f 8), .ref (f 9), .ref (f 10), .ref (f 11), .ref (f 12)])), (f 1, .inl (cy 0, (3, .inl (fun _ => 0)))), (f 2, .inl (cy 0, (3, .inl (fun _ => 0)))), (f 3, .inl (cy 0, (3, .inl (fun _ => 0)))), (f 4, .inl (cy 0, (16, .inl (fun _ => 0)))), (f 5, .inl (cy 0, (16, .inl (fun _ => 0)))), (f 6, .inl (cy 0, (20, .inl (fun _ => 0)))), (f 7, .inl (cy 0, (20, .inl (fun _ => 0)))), (f 8, .inl (cy 0, (20, .inl (fun _ => 0)))), (f 9, .inl (cy 0, (20, .inl (fun _ => 0)))), (f 10, .inl (cy 0, (640, .inl (fun _ => 0)))), (f 11, .inl (cy 0, (6, .inl (fun _ => 0)))), (f 12, .inl (cy 0, (48, .inl (fun _ => 0))))]) H := hP
  have hD : va_D (gA base) (W0 ++ [(a, .inr (3, [.int (0 : Int32), .int 0, .int 0, .int 0, .int 0, .ref (f 1), .ref (f 2), .ref (f 3), .ref (f 4), .ref (f 5), .ref (f 6), .ref (f 7), .ref (f 8), .ref (f 9), .ref (f 10), .ref (f 11), .ref (f 12)])), (f 1, .inl (cy 0, (3, .inl (fun _ => 0)))), (f 2, .inl (cy 0, (3, .inl (fun _ => 0)))), (f 3, .inl (cy 0, (3, .inl (fun _ => 0)))), (f 4, .inl (cy 0, (16, .inl (fun _ => 0)))), (f 5, .inl (cy 0, (16, .inl (fun _ => 0)))), (f 6, .inl (cy 0, (20, .inl (fun _ => 0)))), (f 7, .inl (cy 0, (20, .inl (fun _ => 0)))), (f 8, .inl (cy 0, (20, .inl (fun _ => 0)))), (f 9, .inl (cy 0, (20, .inl (fun _ => 0)))), (f 10, .inl (cy 0, (640, .inl (fun _ => 0)))), (f 11, .inl (cy 0, (6, .inl (fun _ => 0)))), (f 12, .inl (cy 0, (48, .inl (fun _ => 0))))]) := hD
  refine lv_aload_n hx hb dX3_clear_5 rfl (lv_at hl 0 rfl) ?_
  refine lv_iconst (v := (0 : Int32)) hx hb dX3_clear_6 (by decide) ?_
  refine i_putN hx hb hown E hP hD hS 0 rfl gC_X3 1 (by decide) rfl (tyX3_ok 1 (by decide)) rfl rfl kw_357 (Nat.le_of_ble_eq_true rfl) dX3_clear_7 (fun H locs hP hD hS => ?_)
  have hP : va_P D vwCl (W0 ++ [(a, .inr (3, [.int (0 : Int32), .int (0 : Int32), .int 0, .int 0, .int 0, .ref (f 1), .ref (f 2), .ref (f 3), .ref (f 4), .ref (f 5), .ref (f 6), .ref (f 7), .ref (f 8), .ref (f 9), .ref (f 10), .ref (f 11), .ref (f 12)])), (f 1, .inl (cy 0, (3, .inl (fun _ => 0)))), (f 2, .inl (cy 0, (3, .inl (fun _ => 0)))), (f 3, .inl (cy 0, (3, .inl (fun _ => 0)))), (f 4, .inl (cy 0, (16, .inl (fun _ => 0)))), (f 5, .inl (cy 0, (16, .inl (fun _ => 0)))), (f 6, .inl (cy 0, (20, .inl (fun _ => 0)))), (f 7, .inl (cy 0, (20, .inl (fun _ => 0)))), (f 8, .inl (cy 0, (20, .inl (fun _ => 0)))), (f 9, .inl (cy 0, (20, .inl (fun _ => 0)))), (f 10, .inl (cy 0, (640, .inl (fun _ => 0)))), (f 11, .inl (cy 0, (6, .inl (fun _ => 0)))), (f 12, .inl (cy 0, (48, .inl (fun _ => 0))))]) H := hP
  have hD : va_D (gA base) (W0 ++ [(a, .inr (3, [.int (0 : Int32), .int (0 : Int32), .int 0, .int 0, .int 0, .ref (f 1), .ref (f 2), .ref (f 3), .ref (f 4), .ref (f 5), .ref (f 6), .ref (f 7), .ref (f 8), .ref (f 9), .ref (f 10), .ref (f 11), .ref (f 12)])), (f 1, .inl (cy 0, (3, .inl (fun _ => 0)))), (f 2, .inl (cy 0, (3, .inl (fun _ => 0)))), (f 3, .inl (cy 0, (3, .inl (fun _ => 0)))), (f 4, .inl (cy 0, (16, .inl (fun _ => 0)))), (f 5, .inl (cy 0, (16, .inl (fun _ => 0)))), (f 6, .inl (cy 0, (20, .inl (fun _ => 0)))), (f 7, .inl (cy 0, (20, .inl (fun _ => 0)))), (f 8, .inl (cy 0, (20, .inl (fun _ => 0)))), (f 9, .inl (cy 0, (20, .inl (fun _ => 0)))), (f 10, .inl (cy 0, (640, .inl (fun _ => 0)))), (f 11, .inl (cy 0, (6, .inl (fun _ => 0)))), (f 12, .inl (cy 0, (48, .inl (fun _ => 0))))]) := hD
  refine lv_aload_n hx hb dX3_clear_10 rfl (lv_at hl 0 rfl) ?_
  refine lv_iconst (v := (0 : Int32)) hx hb dX3_clear_11 (by decide) ?_
  refine i_putN hx hb hown E hP hD hS 0 rfl gC_X3 2 (by decide) rfl (tyX3_ok 2 (by decide)) rfl rfl kw_361 (Nat.le_of_ble_eq_true rfl) dX3_clear_12 (fun H locs hP hD hS => ?_)
  have hP : va_P D vwCl (W0 ++ [(a, .inr (3, [.int (0 : Int32), .int (0 : Int32), .int (0 : Int32), .int 0, .int 0, .ref (f 1), .ref (f 2), .ref (f 3), .ref (f 4), .ref (f 5), .ref (f 6), .ref (f 7), .ref (f 8), .ref (f 9), .ref (f 10), .ref (f 11), .ref (f 12)])), (f 1, .inl (cy 0, (3, .inl (fun _ => 0)))), (f 2, .inl (cy 0, (3, .inl (fun _ => 0)))), (f 3, .inl (cy 0, (3, .inl (fun _ => 0)))), (f 4, .inl (cy 0, (16, .inl (fun _ => 0)))), (f 5, .inl (cy 0, (16, .inl (fun _ => 0)))), (f 6, .inl (cy 0, (20, .inl (fun _ => 0)))), (f 7, .inl (cy 0, (20, .inl (fun _ => 0)))), (f 8, .inl (cy 0, (20, .inl (fun _ => 0)))), (f 9, .inl (cy 0, (20, .inl (fun _ => 0)))), (f 10, .inl (cy 0, (640, .inl (fun _ => 0)))), (f 11, .inl (cy 0, (6, .inl (fun _ => 0)))), (f 12, .inl (cy 0, (48, .inl (fun _ => 0))))]) H := hP
  have hD : va_D (gA base) (W0 ++ [(a, .inr (3, [.int (0 : Int32), .int (0 : Int32), .int (0 : Int32), .int 0, .int 0, .ref (f 1), .ref (f 2), .ref (f 3), .ref (f 4), .ref (f 5), .ref (f 6), .ref (f 7), .ref (f 8), .ref (f 9), .ref (f 10), .ref (f 11), .ref (f 12)])), (f 1, .inl (cy 0, (3, .inl (fun _ => 0)))), (f 2, .inl (cy 0, (3, .inl (fun _ => 0)))), (f 3, .inl (cy 0, (3, .inl (fun _ => 0)))), (f 4, .inl (cy 0, (16, .inl (fun _ => 0)))), (f 5, .inl (cy 0, (16, .inl (fun _ => 0)))), (f 6, .inl (cy 0, (20, .inl (fun _ => 0)))), (f 7, .inl (cy 0, (20, .inl (fun _ => 0)))), (f 8, .inl (cy 0, (20, .inl (fun _ => 0)))), (f 9, .inl (cy 0, (20, .inl (fun _ => 0)))), (f 10, .inl (cy 0, (640, .inl (fun _ => 0)))), (f 11, .inl (cy 0, (6, .inl (fun _ => 0)))), (f 12, .inl (cy 0, (48, .inl (fun _ => 0))))]) := hD
  refine lv_aload_n hx hb dX3_clear_15 rfl (lv_at hl 0 rfl) ?_
  refine lv_iconst (v := (0 : Int32)) hx hb dX3_clear_16 (by decide) ?_
  refine i_putN hx hb hown E hP hD hS 0 rfl gC_X3 3 (by decide) rfl (tyX3_ok 3 (by decide)) rfl rfl kw_368 (Nat.le_of_ble_eq_true rfl) dX3_clear_17 (fun H locs hP hD hS => ?_)
  have hP : va_P D vwCl (W0 ++ [(a, .inr (3, [.int (0 : Int32), .int (0 : Int32), .int (0 : Int32), .int (0 : Int32), .int 0, .ref (f 1), .ref (f 2), .ref (f 3), .ref (f 4), .ref (f 5), .ref (f 6), .ref (f 7), .ref (f 8), .ref (f 9), .ref (f 10), .ref (f 11), .ref (f 12)])), (f 1, .inl (cy 0, (3, .inl (fun _ => 0)))), (f 2, .inl (cy 0, (3, .inl (fun _ => 0)))), (f 3, .inl (cy 0, (3, .inl (fun _ => 0)))), (f 4, .inl (cy 0, (16, .inl (fun _ => 0)))), (f 5, .inl (cy 0, (16, .inl (fun _ => 0)))), (f 6, .inl (cy 0, (20, .inl (fun _ => 0)))), (f 7, .inl (cy 0, (20, .inl (fun _ => 0)))), (f 8, .inl (cy 0, (20, .inl (fun _ => 0)))), (f 9, .inl (cy 0, (20, .inl (fun _ => 0)))), (f 10, .inl (cy 0, (640, .inl (fun _ => 0)))), (f 11, .inl (cy 0, (6, .inl (fun _ => 0)))), (f 12, .inl (cy 0, (48, .inl (fun _ => 0))))]) H := hP
  have hD : va_D (gA base) (W0 ++ [(a, .inr (3, [.int (0 : Int32), .int (0 : Int32), .int (0 : Int32), .int (0 : Int32), .int 0, .ref (f 1), .ref (f 2), .ref (f 3), .ref (f 4), .ref (f 5), .ref (f 6), .ref (f 7), .ref (f 8), .ref (f 9), .ref (f 10), .ref (f 11), .ref (f 12)])), (f 1, .inl (cy 0, (3, .inl (fun _ => 0)))), (f 2, .inl (cy 0, (3, .inl (fun _ => 0)))), (f 3, .inl (cy 0, (3, .inl (fun _ => 0)))), (f 4, .inl (cy 0, (16, .inl (fun _ => 0)))), (f 5, .inl (cy 0, (16, .inl (fun _ => 0)))), (f 6, .inl (cy 0, (20, .inl (fun _ => 0)))), (f 7, .inl (cy 0, (20, .inl (fun _ => 0)))), (f 8, .inl (cy 0, (20, .inl (fun _ => 0)))), (f 9, .inl (cy 0, (20, .inl (fun _ => 0)))), (f 10, .inl (cy 0, (640, .inl (fun _ => 0)))), (f 11, .inl (cy 0, (6, .inl (fun _ => 0)))), (f 12, .inl (cy 0, (48, .inl (fun _ => 0))))]) := hD
  refine lv_aload_n hx hb dX3_clear_20 rfl (lv_at hl 0 rfl) ?_
  refine lv_iconst (v := (0 : Int32)) hx hb dX3_clear_21 (by decide) ?_
  refine i_putN hx hb hown E hP hD hS 0 rfl gC_X3 4 (by decide) rfl (tyX3_ok 4 (by decide)) rfl rfl kw_371 (Nat.le_of_ble_eq_true rfl) dX3_clear_22 (fun H locs hP hD hS => ?_)
  have hP : va_P D vwCl (W0 ++ [(a, .inr (3, [.int (0 : Int32), .int (0 : Int32), .int (0 : Int32), .int (0 : Int32), .int (0 : Int32), .ref (f 1), .ref (f 2), .ref (f 3), .ref (f 4), .ref (f 5), .ref (f 6), .ref (f 7), .ref (f 8), .ref (f 9), .ref (f 10), .ref (f 11), .ref (f 12)])), (f 1, .inl (cy 0, (3, .inl (fun _ => 0)))), (f 2, .inl (cy 0, (3, .inl (fun _ => 0)))), (f 3, .inl (cy 0, (3, .inl (fun _ => 0)))), (f 4, .inl (cy 0, (16, .inl (fun _ => 0)))), (f 5, .inl (cy 0, (16, .inl (fun _ => 0)))), (f 6, .inl (cy 0, (20, .inl (fun _ => 0)))), (f 7, .inl (cy 0, (20, .inl (fun _ => 0)))), (f 8, .inl (cy 0, (20, .inl (fun _ => 0)))), (f 9, .inl (cy 0, (20, .inl (fun _ => 0)))), (f 10, .inl (cy 0, (640, .inl (fun _ => 0)))), (f 11, .inl (cy 0, (6, .inl (fun _ => 0)))), (f 12, .inl (cy 0, (48, .inl (fun _ => 0))))]) H := hP
  have hD : va_D (gA base) (W0 ++ [(a, .inr (3, [.int (0 : Int32), .int (0 : Int32), .int (0 : Int32), .int (0 : Int32), .int (0 : Int32), .ref (f 1), .ref (f 2), .ref (f 3), .ref (f 4), .ref (f 5), .ref (f 6), .ref (f 7), .ref (f 8), .ref (f 9), .ref (f 10), .ref (f 11), .ref (f 12)])), (f 1, .inl (cy 0, (3, .inl (fun _ => 0)))), (f 2, .inl (cy 0, (3, .inl (fun _ => 0)))), (f 3, .inl (cy 0, (3, .inl (fun _ => 0)))), (f 4, .inl (cy 0, (16, .inl (fun _ => 0)))), (f 5, .inl (cy 0, (16, .inl (fun _ => 0)))), (f 6, .inl (cy 0, (20, .inl (fun _ => 0)))), (f 7, .inl (cy 0, (20, .inl (fun _ => 0)))), (f 8, .inl (cy 0, (20, .inl (fun _ => 0)))), (f 9, .inl (cy 0, (20, .inl (fun _ => 0)))), (f 10, .inl (cy 0, (640, .inl (fun _ => 0)))), (f 11, .inl (cy 0, (6, .inl (fun _ => 0)))), (f 12, .inl (cy 0, (48, .inl (fun _ => 0))))]) := hD
  refine lv_iconst (v := (0 : Int32)) hx hb dX3_clear_25 (by decide) ?_
  refine lv_istore_n (lv' := [(1, .int (0 : Int32)), (0, .ref a)]) hx hb dX3_clear_26 rfl hl (by decide) rfl (fun ls hl => ?_)
  refine lv_iload_n hx hb dX3_clear_27 rfl (lv_at hl 0 rfl) ?_
  refine lv_iconst (v := (3 : Int32)) hx hb dX3_clear_28 (by decide) ?_
  refine lv_icmp_ge (tgt := 49) hx hb dX3_clear_29 (by decide) (fun c9 => absurd c9 (by decide)) (fun _ => ?_)
  refine lv_aload_n hx hb dX3_clear_32 rfl (lv_at hl 1 rfl) ?_
  refine i_get hx hb hown E hP 0 rfl gC_X3 5 (by decide) rfl kw_377 dX3_clear_33 ?_
  refine lv_iload_n hx hb dX3_clear_36 rfl (lv_at hl 0 rfl) ?_
  refine g_getsN hx hb hown E hS 4 (by decide) (gSt_4) E.2.2.2.1.2.1 dX3_clear_37 ?_
  refine lv_iload_n hx hb dX3_clear_40 rfl (lv_at hl 0 rfl) ?_
  refine g_sti hx hb E hS 4 (n := 3) (by decide) rfl rfl (by decide) dX3_clear_41 ?_
  refine i_ast hx hb E hP hD hS 1 rfl (by decide) dX3_clear_42 (fun H locs hP hD hS => ?_)
  have hP : va_P D vwCl (W0 ++ [(a, .inr (3, [.int (0 : Int32), .int (0 : Int32), .int (0 : Int32), .int (0 : Int32), .int (0 : Int32), .ref (f 1), .ref (f 2), .ref (f 3), .ref (f 4), .ref (f 5), .ref (f 6), .ref (f 7), .ref (f 8), .ref (f 9), .ref (f 10), .ref (f 11), .ref (f 12)])), (f 1, .inl (cy 0, (3, .inl (upd (fun _ => 0) (0 : Int32).toNatClampNeg (sc 4 (0 : Int32).toNatClampNeg))))), (f 2, .inl (cy 0, (3, .inl (fun _ => 0)))), (f 3, .inl (cy 0, (3, .inl (fun _ => 0)))), (f 4, .inl (cy 0, (16, .inl (fun _ => 0)))), (f 5, .inl (cy 0, (16, .inl (fun _ => 0)))), (f 6, .inl (cy 0, (20, .inl (fun _ => 0)))), (f 7, .inl (cy 0, (20, .inl (fun _ => 0)))), (f 8, .inl (cy 0, (20, .inl (fun _ => 0)))), (f 9, .inl (cy 0, (20, .inl (fun _ => 0)))), (f 10, .inl (cy 0, (640, .inl (fun _ => 0)))), (f 11, .inl (cy 0, (6, .inl (fun _ => 0)))), (f 12, .inl (cy 0, (48, .inl (fun _ => 0))))]) H := hP
  have hD : va_D (gA base) (W0 ++ [(a, .inr (3, [.int (0 : Int32), .int (0 : Int32), .int (0 : Int32), .int (0 : Int32), .int (0 : Int32), .ref (f 1), .ref (f 2), .ref (f 3), .ref (f 4), .ref (f 5), .ref (f 6), .ref (f 7), .ref (f 8), .ref (f 9), .ref (f 10), .ref (f 11), .ref (f 12)])), (f 1, .inl (cy 0, (3, .inl (upd (fun _ => 0) (0 : Int32).toNatClampNeg (sc 4 (0 : Int32).toNatClampNeg))))), (f 2, .inl (cy 0, (3, .inl (fun _ => 0)))), (f 3, .inl (cy 0, (3, .inl (fun _ => 0)))), (f 4, .inl (cy 0, (16, .inl (fun _ => 0)))), (f 5, .inl (cy 0, (16, .inl (fun _ => 0)))), (f 6, .inl (cy 0, (20, .inl (fun _ => 0)))), (f 7, .inl (cy 0, (20, .inl (fun _ => 0)))), (f 8, .inl (cy 0, (20, .inl (fun _ => 0)))), (f 9, .inl (cy 0, (20, .inl (fun _ => 0)))), (f 10, .inl (cy 0, (640, .inl (fun _ => 0)))), (f 11, .inl (cy 0, (6, .inl (fun _ => 0)))), (f 12, .inl (cy 0, (48, .inl (fun _ => 0))))]) := hD
  refine lv_iinc (v := (1 : Int32)) (lv' := [(1, .int (1 : Int32)), (0, .ref a)]) hx hb dX3_clear_43 hl (k := 0) rfl (by decide) (by decide) rfl (fun ls hl => ?_)
  refine lv_goto (tgt := 27) hx hb dX3_clear_46 (by decide) ?_
  refine lv_iload_n hx hb dX3_clear_27 rfl (lv_at hl 0 rfl) ?_
  refine lv_iconst (v := (3 : Int32)) hx hb dX3_clear_28 (by decide) ?_
  refine lv_icmp_ge (tgt := 49) hx hb dX3_clear_29 (by decide) (fun c9 => absurd c9 (by decide)) (fun _ => ?_)
  refine lv_aload_n hx hb dX3_clear_32 rfl (lv_at hl 1 rfl) ?_
  refine i_get hx hb hown E hP 0 rfl gC_X3 5 (by decide) rfl kw_377 dX3_clear_33 ?_
  refine lv_iload_n hx hb dX3_clear_36 rfl (lv_at hl 0 rfl) ?_
  refine g_getsN hx hb hown E hS 4 (by decide) (gSt_4) E.2.2.2.1.2.1 dX3_clear_37 ?_
  refine lv_iload_n hx hb dX3_clear_40 rfl (lv_at hl 0 rfl) ?_
  refine g_sti hx hb E hS 4 (n := 3) (by decide) rfl rfl (by decide) dX3_clear_41 ?_
  refine i_ast hx hb E hP hD hS 1 rfl (by decide) dX3_clear_42 (fun H locs hP hD hS => ?_)
  have hP : va_P D vwCl (W0 ++ [(a, .inr (3, [.int (0 : Int32), .int (0 : Int32), .int (0 : Int32), .int (0 : Int32), .int (0 : Int32), .ref (f 1), .ref (f 2), .ref (f 3), .ref (f 4), .ref (f 5), .ref (f 6), .ref (f 7), .ref (f 8), .ref (f 9), .ref (f 10), .ref (f 11), .ref (f 12)])), (f 1, .inl (cy 0, (3, .inl (upd (upd (fun _ => 0) (0 : Int32).toNatClampNeg (sc 4 (0 : Int32).toNatClampNeg)) (1 : Int32).toNatClampNeg (sc 4 (1 : Int32).toNatClampNeg))))), (f 2, .inl (cy 0, (3, .inl (fun _ => 0)))), (f 3, .inl (cy 0, (3, .inl (fun _ => 0)))), (f 4, .inl (cy 0, (16, .inl (fun _ => 0)))), (f 5, .inl (cy 0, (16, .inl (fun _ => 0)))), (f 6, .inl (cy 0, (20, .inl (fun _ => 0)))), (f 7, .inl (cy 0, (20, .inl (fun _ => 0)))), (f 8, .inl (cy 0, (20, .inl (fun _ => 0)))), (f 9, .inl (cy 0, (20, .inl (fun _ => 0)))), (f 10, .inl (cy 0, (640, .inl (fun _ => 0)))), (f 11, .inl (cy 0, (6, .inl (fun _ => 0)))), (f 12, .inl (cy 0, (48, .inl (fun _ => 0))))]) H := hP
  have hD : va_D (gA base) (W0 ++ [(a, .inr (3, [.int (0 : Int32), .int (0 : Int32), .int (0 : Int32), .int (0 : Int32), .int (0 : Int32), .ref (f 1), .ref (f 2), .ref (f 3), .ref (f 4), .ref (f 5), .ref (f 6), .ref (f 7), .ref (f 8), .ref (f 9), .ref (f 10), .ref (f 11), .ref (f 12)])), (f 1, .inl (cy 0, (3, .inl (upd (upd (fun _ => 0) (0 : Int32).toNatClampNeg (sc 4 (0 : Int32).toNatClampNeg)) (1 : Int32).toNatClampNeg (sc 4 (1 : Int32).toNatClampNeg))))), (f 2, .inl (cy 0, (3, .inl (fun _ => 0)))), (f 3, .inl (cy 0, (3, .inl (fun _ => 0)))), (f 4, .inl (cy 0, (16, .inl (fun _ => 0)))), (f 5, .inl (cy 0, (16, .inl (fun _ => 0)))), (f 6, .inl (cy 0, (20, .inl (fun _ => 0)))), (f 7, .inl (cy 0, (20, .inl (fun _ => 0)))), (f 8, .inl (cy 0, (20, .inl (fun _ => 0)))), (f 9, .inl (cy 0, (20, .inl (fun _ => 0)))), (f 10, .inl (cy 0, (640, .inl (fun _ => 0)))), (f 11, .inl (cy 0, (6, .inl (fun _ => 0)))), (f 12, .inl (cy 0, (48, .inl (fun _ => 0))))]) := hD
  refine lv_iinc (v := (2 : Int32)) (lv' := [(1, .int (2 : Int32)), (0, .ref a)]) hx hb dX3_clear_43 hl (k := 0) rfl (by decide) (by decide) rfl (fun ls hl => ?_)
  refine lv_goto (tgt := 27) hx hb dX3_clear_46 (by decide) ?_
  refine lv_iload_n hx hb dX3_clear_27 rfl (lv_at hl 0 rfl) ?_
  refine lv_iconst (v := (3 : Int32)) hx hb dX3_clear_28 (by decide) ?_
  refine lv_icmp_ge (tgt := 49) hx hb dX3_clear_29 (by decide) (fun c9 => absurd c9 (by decide)) (fun _ => ?_)
  refine lv_aload_n hx hb dX3_clear_32 rfl (lv_at hl 1 rfl) ?_
  refine i_get hx hb hown E hP 0 rfl gC_X3 5 (by decide) rfl kw_377 dX3_clear_33 ?_
  refine lv_iload_n hx hb dX3_clear_36 rfl (lv_at hl 0 rfl) ?_
  refine g_getsN hx hb hown E hS 4 (by decide) (gSt_4) E.2.2.2.1.2.1 dX3_clear_37 ?_
  refine lv_iload_n hx hb dX3_clear_40 rfl (lv_at hl 0 rfl) ?_
  refine g_sti hx hb E hS 4 (n := 3) (by decide) rfl rfl (by decide) dX3_clear_41 ?_
  refine i_ast hx hb E hP hD hS 1 rfl (by decide) dX3_clear_42 (fun H locs hP hD hS => ?_)
  have hP : va_P D vwCl (W0 ++ [(a, .inr (3, [.int (0 : Int32), .int (0 : Int32), .int (0 : Int32), .int (0 : Int32), .int (0 : Int32), .ref (f 1), .ref (f 2), .ref (f 3), .ref (f 4), .ref (f 5), .ref (f 6), .ref (f 7), .ref (f 8), .ref (f 9), .ref (f 10), .ref (f 11), .ref (f 12)])), (f 1, .inl (cy 0, (3, .inl (upd (upd (upd (fun _ => 0) (0 : Int32).toNatClampNeg (sc 4 (0 : Int32).toNatClampNeg)) (1 : Int32).toNatClampNeg (sc 4 (1 : Int32).toNatClampNeg)) (2 : Int32).toNatClampNeg (sc 4 (2 : Int32).toNatClampNeg))))), (f 2, .inl (cy 0, (3, .inl (fun _ => 0)))), (f 3, .inl (cy 0, (3, .inl (fun _ => 0)))), (f 4, .inl (cy 0, (16, .inl (fun _ => 0)))), (f 5, .inl (cy 0, (16, .inl (fun _ => 0)))), (f 6, .inl (cy 0, (20, .inl (fun _ => 0)))), (f 7, .inl (cy 0, (20, .inl (fun _ => 0)))), (f 8, .inl (cy 0, (20, .inl (fun _ => 0)))), (f 9, .inl (cy 0, (20, .inl (fun _ => 0)))), (f 10, .inl (cy 0, (640, .inl (fun _ => 0)))), (f 11, .inl (cy 0, (6, .inl (fun _ => 0)))), (f 12, .inl (cy 0, (48, .inl (fun _ => 0))))]) H := hP
  have hD : va_D (gA base) (W0 ++ [(a, .inr (3, [.int (0 : Int32), .int (0 : Int32), .int (0 : Int32), .int (0 : Int32), .int (0 : Int32), .ref (f 1), .ref (f 2), .ref (f 3), .ref (f 4), .ref (f 5), .ref (f 6), .ref (f 7), .ref (f 8), .ref (f 9), .ref (f 10), .ref (f 11), .ref (f 12)])), (f 1, .inl (cy 0, (3, .inl (upd (upd (upd (fun _ => 0) (0 : Int32).toNatClampNeg (sc 4 (0 : Int32).toNatClampNeg)) (1 : Int32).toNatClampNeg (sc 4 (1 : Int32).toNatClampNeg)) (2 : Int32).toNatClampNeg (sc 4 (2 : Int32).toNatClampNeg))))), (f 2, .inl (cy 0, (3, .inl (fun _ => 0)))), (f 3, .inl (cy 0, (3, .inl (fun _ => 0)))), (f 4, .inl (cy 0, (16, .inl (fun _ => 0)))), (f 5, .inl (cy 0, (16, .inl (fun _ => 0)))), (f 6, .inl (cy 0, (20, .inl (fun _ => 0)))), (f 7, .inl (cy 0, (20, .inl (fun _ => 0)))), (f 8, .inl (cy 0, (20, .inl (fun _ => 0)))), (f 9, .inl (cy 0, (20, .inl (fun _ => 0)))), (f 10, .inl (cy 0, (640, .inl (fun _ => 0)))), (f 11, .inl (cy 0, (6, .inl (fun _ => 0)))), (f 12, .inl (cy 0, (48, .inl (fun _ => 0))))]) := hD
  refine lv_iinc (v := (3 : Int32)) (lv' := [(1, .int (3 : Int32)), (0, .ref a)]) hx hb dX3_clear_43 hl (k := 0) rfl (by decide) (by decide) rfl (fun ls hl => ?_)
  refine lv_goto (tgt := 27) hx hb dX3_clear_46 (by decide) ?_
  refine lv_iload_n hx hb dX3_clear_27 rfl (lv_at hl 0 rfl) ?_
  refine lv_iconst (v := (3 : Int32)) hx hb dX3_clear_28 (by decide) ?_
  refine lv_icmp_ge (tgt := 49) hx hb dX3_clear_29 (by decide) (fun _ => ?_) (fun c9 => absurd (by decide) c9)
  exact i_vret hx hb hr hlocks rfl hP hD hS dX3_clear_49
set_option maxHeartbeats 4000000 in
set_option maxRecDepth 100000 in
theorem k_X3_init {l : Launch} {D : va_G} {cy : Nat → ClassId} {ad : Nat → Nat} {base : Nat} {W0 : va_W} {a : Nat} : Met l yX3_init [.code yX3_init cX3_init 1 none] ({ frames := 2, cells := 12, slots := 815, locals := 33 } : Room) (va_Pc [.ref a] (gI l D cy ad base (W0 ++ [(a, .inr (3, [.int 0, .int 0, .int 0, .int 0, .int 0, .null, .null, .null, .null, .null, .null, .null, .null, .null, .null, .null, .null]))]))) (gQI (fun ws2 => ∃ f : Nat → Nat, ws2 = W0 ++ [(a, .inr (3, [.int 0, .int 0, .int 0, .int 0, .int 0, .ref (f 1), .ref (f 2), .ref (f 3), .ref (f 4), .ref (f 5), .ref (f 6), .ref (f 7), .ref (f 8), .ref (f 9), .ref (f 10), .ref (f 11), .ref (f 12)])), (f 1, .inl (cy 0, (3, .inl (upd (upd (upd (fun _ => 0) (0 : Int32).toNatClampNeg (sc 4 (0 : Int32).toNatClampNeg)) (1 : Int32).toNatClampNeg (sc 4 (1 : Int32).toNatClampNeg)) (2 : Int32).toNatClampNeg (sc 4 (2 : Int32).toNatClampNeg))))), (f 2, .inl (cy 0, (3, .inl (fun _ => 0)))), (f 3, .inl (cy 0, (3, .inl (fun _ => 0)))), (f 4, .inl (cy 0, (16, .inl (fun _ => 0)))), (f 5, .inl (cy 0, (16, .inl (fun _ => 0)))), (f 6, .inl (cy 0, (20, .inl (fun _ => 0)))), (f 7, .inl (cy 0, (20, .inl (fun _ => 0)))), (f 8, .inl (cy 0, (20, .inl (fun _ => 0)))), (f 9, .inl (cy 0, (20, .inl (fun _ => 0)))), (f 10, .inl (cy 0, (640, .inl (fun _ => 0)))), (f 11, .inl (cy 0, (6, .inl (fun _ => 0)))), (f 12, .inl (cy 0, (48, .inl (fun _ => 0))))]) D base) 12 815 (gA base) := by
  refine Met.ofW (cc := cX3_init) (maxL := 1) (ret := none) (by decide) rfl ?_
  intro p e s m args below meth c s₁ B hml0 hv
  obtain ⟨rfl, E, NI, hz, hP, hD⟩ := hv
  have F : gF p s m meth c cX3_init RX3 1 none := gF_of B hml0
  obtain ⟨hx, hb, hml, hown, hlocks, hr⟩ := id F
  have hin : meth.name = "<init>" := (name_of_methodNamed B.named B.method).1
  have hS : va_S (gA base) s.heap s.heap [] := va_S.rf
  have hl := lv_entry ([.ref a]) (n := 1) (Nat.le_of_ble_eq_true rfl)
  rw [lg_entry_eq]
  generalize (lg_sl ([.ref a]) ++ List.replicate (1 - (lg_sl ([.ref a])).length) Slot.unset).toArray = ls at hl ⊢
  have hl : lv_has ls 1 [(0, .ref a)] := hl
  refine lv_aload_n hx hb dX3_init_0 rfl (lv_at hl 0 rfl) ?_
  refine W.objInit hx hb hown (E.kw kw_345) (E.kw kw_128) (E.kw kw_129) rfl (by rw [hml]; exact hl.1) rfl dX3_init_1 (Nat.le_of_ble_eq_true rfl) (Nat.le_of_ble_eq_true rfl) ?_
  refine W.eq (g2 := F0 m 4 ls []) rfl ?_
  refine lv_aload_n hx hb dX3_init_4 rfl (lv_at hl 0 rfl) ?_
  refine lv_iconst (v := (3 : Int32)) hx hb dX3_init_5 (by decide) ?_
  refine i_newI hx hb E hP hD hS hz (N := 3) (by decide) (by decide) (by decide) (Nat.le_of_ble_eq_true rfl) (Nat.le_of_ble_eq_true rfl) dX3_init_6 (fun q1 H hP hD hS => ?_)
  rw [List.append_assoc] at hP hD
  have hP : va_P D vwCl (W0 ++ [(a, .inr (3, [.int 0, .int 0, .int 0, .int 0, .int 0, .null, .null, .null, .null, .null, .null, .null, .null, .null, .null, .null, .null])), (q1, .inl (cy 0, (3, .inl (fun _ => 0))))]) H := hP
  have hD : va_D (gA base) (W0 ++ [(a, .inr (3, [.int 0, .int 0, .int 0, .int 0, .int 0, .null, .null, .null, .null, .null, .null, .null, .null, .null, .null, .null, .null])), (q1, .inl (cy 0, (3, .inl (fun _ => 0))))]) := hD
  refine W.widen (k := 1) (n := 3) (Nat.le_of_ble_eq_true rfl) (Nat.le_of_ble_eq_true rfl) ?_
  refine i_putF hx hb hown E hP hD hS hin 0 rfl gC_X3 5 (by decide) rfl rfl (tyX3_ok 5 (by decide)) rfl rfl kw_377 (Nat.le_of_ble_eq_true rfl) dX3_init_8 (fun H locs hP hD hS => ?_)
  have hP : va_P D vwCl (W0 ++ [(a, .inr (3, [.int 0, .int 0, .int 0, .int 0, .int 0, .ref q1, .null, .null, .null, .null, .null, .null, .null, .null, .null, .null, .null])), (q1, .inl (cy 0, (3, .inl (fun _ => 0))))]) H := hP
  have hD : va_D (gA base) (W0 ++ [(a, .inr (3, [.int 0, .int 0, .int 0, .int 0, .int 0, .ref q1, .null, .null, .null, .null, .null, .null, .null, .null, .null, .null, .null])), (q1, .inl (cy 0, (3, .inl (fun _ => 0))))]) := hD
  refine lv_aload_n hx hb dX3_init_11 rfl (lv_at hl 0 rfl) ?_
  refine lv_iconst (v := (3 : Int32)) hx hb dX3_init_12 (by decide) ?_
  refine i_newI hx hb E hP hD hS hz (N := 3) (by decide) (by decide) (by decide) (Nat.le_of_ble_eq_true rfl) (Nat.le_of_ble_eq_true rfl) dX3_init_13 (fun q2 H hP hD hS => ?_)
  rw [List.append_assoc] at hP hD
  have hP : va_P D vwCl (W0 ++ [(a, .inr (3, [.int 0, .int 0, .int 0, .int 0, .int 0, .ref q1, .null, .null, .null, .null, .null, .null, .null, .null, .null, .null, .null])), (q1, .inl (cy 0, (3, .inl (fun _ => 0)))), (q2, .inl (cy 0, (3, .inl (fun _ => 0))))]) H := hP
  have hD : va_D (gA base) (W0 ++ [(a, .inr (3, [.int 0, .int 0, .int 0, .int 0, .int 0, .ref q1, .null, .null, .null, .null, .null, .null, .null, .null, .null, .null, .null])), (q1, .inl (cy 0, (3, .inl (fun _ => 0)))), (q2, .inl (cy 0, (3, .inl (fun _ => 0))))]) := hD
  refine W.widen (k := 2) (n := 6) (Nat.le_of_ble_eq_true rfl) (Nat.le_of_ble_eq_true rfl) ?_
  refine i_putF hx hb hown E hP hD hS hin 0 rfl gC_X3 6 (by decide) rfl rfl (tyX3_ok 6 (by decide)) rfl rfl kw_382 (Nat.le_of_ble_eq_true rfl) dX3_init_15 (fun H locs hP hD hS => ?_)
  have hP : va_P D vwCl (W0 ++ [(a, .inr (3, [.int 0, .int 0, .int 0, .int 0, .int 0, .ref q1, .ref q2, .null, .null, .null, .null, .null, .null, .null, .null, .null, .null])), (q1, .inl (cy 0, (3, .inl (fun _ => 0)))), (q2, .inl (cy 0, (3, .inl (fun _ => 0))))]) H := hP
  have hD : va_D (gA base) (W0 ++ [(a, .inr (3, [.int 0, .int 0, .int 0, .int 0, .int 0, .ref q1, .ref q2, .null, .null, .null, .null, .null, .null, .null, .null, .null, .null])), (q1, .inl (cy 0, (3, .inl (fun _ => 0)))), (q2, .inl (cy 0, (3, .inl (fun _ => 0))))]) := hD
  refine lv_aload_n hx hb dX3_init_18 rfl (lv_at hl 0 rfl) ?_
  refine lv_iconst (v := (3 : Int32)) hx hb dX3_init_19 (by decide) ?_
  refine i_newI hx hb E hP hD hS hz (N := 3) (by decide) (by decide) (by decide) (Nat.le_of_ble_eq_true rfl) (Nat.le_of_ble_eq_true rfl) dX3_init_20 (fun q3 H hP hD hS => ?_)
  rw [List.append_assoc] at hP hD
  have hP : va_P D vwCl (W0 ++ [(a, .inr (3, [.int 0, .int 0, .int 0, .int 0, .int 0, .ref q1, .ref q2, .null, .null, .null, .null, .null, .null, .null, .null, .null, .null])), (q1, .inl (cy 0, (3, .inl (fun _ => 0)))), (q2, .inl (cy 0, (3, .inl (fun _ => 0)))), (q3, .inl (cy 0, (3, .inl (fun _ => 0))))]) H := hP
  have hD : va_D (gA base) (W0 ++ [(a, .inr (3, [.int 0, .int 0, .int 0, .int 0, .int 0, .ref q1, .ref q2, .null, .null, .null, .null, .null, .null, .null, .null, .null, .null])), (q1, .inl (cy 0, (3, .inl (fun _ => 0)))), (q2, .inl (cy 0, (3, .inl (fun _ => 0)))), (q3, .inl (cy 0, (3, .inl (fun _ => 0))))]) := hD
  refine W.widen (k := 3) (n := 9) (Nat.le_of_ble_eq_true rfl) (Nat.le_of_ble_eq_true rfl) ?_
  refine i_putF hx hb hown E hP hD hS hin 0 rfl gC_X3 7 (by decide) rfl rfl (tyX3_ok 7 (by decide)) rfl rfl kw_384 (Nat.le_of_ble_eq_true rfl) dX3_init_22 (fun H locs hP hD hS => ?_)
  have hP : va_P D vwCl (W0 ++ [(a, .inr (3, [.int 0, .int 0, .int 0, .int 0, .int 0, .ref q1, .ref q2, .ref q3, .null, .null, .null, .null, .null, .null, .null, .null, .null])), (q1, .inl (cy 0, (3, .inl (fun _ => 0)))), (q2, .inl (cy 0, (3, .inl (fun _ => 0)))), (q3, .inl (cy 0, (3, .inl (fun _ => 0))))]) H := hP
  have hD : va_D (gA base) (W0 ++ [(a, .inr (3, [.int 0, .int 0, .int 0, .int 0, .int 0, .ref q1, .ref q2, .ref q3, .null, .null, .null, .null, .null, .null, .null, .null, .null])), (q1, .inl (cy 0, (3, .inl (fun _ => 0)))), (q2, .inl (cy 0, (3, .inl (fun _ => 0)))), (q3, .inl (cy 0, (3, .inl (fun _ => 0))))]) := hD
  refine lv_aload_n hx hb dX3_init_25 rfl (lv_at hl 0 rfl) ?_
  refine lv_bipush (v := (16 : Int32)) hx hb dX3_init_26 (by decide) ?_
  refine i_newI hx hb E hP hD hS hz (N := 16) (by decide) (by decide) (by decide) (Nat.le_of_ble_eq_true rfl) (Nat.le_of_ble_eq_true rfl) dX3_init_28 (fun q4 H hP hD hS => ?_)
  rw [List.append_assoc] at hP hD
  have hP : va_P D vwCl (W0 ++ [(a, .inr (3, [.int 0, .int 0, .int 0, .int 0, .int 0, .ref q1, .ref q2, .ref q3, .null, .null, .null, .null, .null, .null, .null, .null, .null])), (q1, .inl (cy 0, (3, .inl (fun _ => 0)))), (q2, .inl (cy 0, (3, .inl (fun _ => 0)))), (q3, .inl (cy 0, (3, .inl (fun _ => 0)))), (q4, .inl (cy 0, (16, .inl (fun _ => 0))))]) H := hP
  have hD : va_D (gA base) (W0 ++ [(a, .inr (3, [.int 0, .int 0, .int 0, .int 0, .int 0, .ref q1, .ref q2, .ref q3, .null, .null, .null, .null, .null, .null, .null, .null, .null])), (q1, .inl (cy 0, (3, .inl (fun _ => 0)))), (q2, .inl (cy 0, (3, .inl (fun _ => 0)))), (q3, .inl (cy 0, (3, .inl (fun _ => 0)))), (q4, .inl (cy 0, (16, .inl (fun _ => 0))))]) := hD
  refine W.widen (k := 4) (n := 25) (Nat.le_of_ble_eq_true rfl) (Nat.le_of_ble_eq_true rfl) ?_
  refine i_putF hx hb hown E hP hD hS hin 0 rfl gC_X3 8 (by decide) rfl rfl (tyX3_ok 8 (by decide)) rfl rfl kw_388 (Nat.le_of_ble_eq_true rfl) dX3_init_30 (fun H locs hP hD hS => ?_)
  have hP : va_P D vwCl (W0 ++ [(a, .inr (3, [.int 0, .int 0, .int 0, .int 0, .int 0, .ref q1, .ref q2, .ref q3, .ref q4, .null, .null, .null, .null, .null, .null, .null, .null])), (q1, .inl (cy 0, (3, .inl (fun _ => 0)))), (q2, .inl (cy 0, (3, .inl (fun _ => 0)))), (q3, .inl (cy 0, (3, .inl (fun _ => 0)))), (q4, .inl (cy 0, (16, .inl (fun _ => 0))))]) H := hP
  have hD : va_D (gA base) (W0 ++ [(a, .inr (3, [.int 0, .int 0, .int 0, .int 0, .int 0, .ref q1, .ref q2, .ref q3, .ref q4, .null, .null, .null, .null, .null, .null, .null, .null])), (q1, .inl (cy 0, (3, .inl (fun _ => 0)))), (q2, .inl (cy 0, (3, .inl (fun _ => 0)))), (q3, .inl (cy 0, (3, .inl (fun _ => 0)))), (q4, .inl (cy 0, (16, .inl (fun _ => 0))))]) := hD
  refine lv_aload_n hx hb dX3_init_33 rfl (lv_at hl 0 rfl) ?_
  refine lv_bipush (v := (16 : Int32)) hx hb dX3_init_34 (by decide) ?_
  refine i_newI hx hb E hP hD hS hz (N := 16) (by decide) (by decide) (by decide) (Nat.le_of_ble_eq_true rfl) (Nat.le_of_ble_eq_true rfl) dX3_init_36 (fun q5 H hP hD hS => ?_)
  rw [List.append_assoc] at hP hD
  have hP : va_P D vwCl (W0 ++ [(a, .inr (3, [.int 0, .int 0, .int 0, .int 0, .int 0, .ref q1, .ref q2, .ref q3, .ref q4, .null, .null, .null, .null, .null, .null, .null, .null])), (q1, .inl (cy 0, (3, .inl (fun _ => 0)))), (q2, .inl (cy 0, (3, .inl (fun _ => 0)))), (q3, .inl (cy 0, (3, .inl (fun _ => 0)))), (q4, .inl (cy 0, (16, .inl (fun _ => 0)))), (q5, .inl (cy 0, (16, .inl (fun _ => 0))))]) H := hP
  have hD : va_D (gA base) (W0 ++ [(a, .inr (3, [.int 0, .int 0, .int 0, .int 0, .int 0, .ref q1, .ref q2, .ref q3, .ref q4, .null, .null, .null, .null, .null, .null, .null, .null])), (q1, .inl (cy 0, (3, .inl (fun _ => 0)))), (q2, .inl (cy 0, (3, .inl (fun _ => 0)))), (q3, .inl (cy 0, (3, .inl (fun _ => 0)))), (q4, .inl (cy 0, (16, .inl (fun _ => 0)))), (q5, .inl (cy 0, (16, .inl (fun _ => 0))))]) := hD
  refine W.widen (k := 5) (n := 41) (Nat.le_of_ble_eq_true rfl) (Nat.le_of_ble_eq_true rfl) ?_
  refine i_putF hx hb hown E hP hD hS hin 0 rfl gC_X3 9 (by decide) rfl rfl (tyX3_ok 9 (by decide)) rfl rfl kw_390 (Nat.le_of_ble_eq_true rfl) dX3_init_38 (fun H locs hP hD hS => ?_)
  have hP : va_P D vwCl (W0 ++ [(a, .inr (3, [.int 0, .int 0, .int 0, .int 0, .int 0, .ref q1, .ref q2, .ref q3, .ref q4, .ref q5, .null, .null, .null, .null, .null, .null, .null])), (q1, .inl (cy 0, (3, .inl (fun _ => 0)))), (q2, .inl (cy 0, (3, .inl (fun _ => 0)))), (q3, .inl (cy 0, (3, .inl (fun _ => 0)))), (q4, .inl (cy 0, (16, .inl (fun _ => 0)))), (q5, .inl (cy 0, (16, .inl (fun _ => 0))))]) H := hP
  have hD : va_D (gA base) (W0 ++ [(a, .inr (3, [.int 0, .int 0, .int 0, .int 0, .int 0, .ref q1, .ref q2, .ref q3, .ref q4, .ref q5, .null, .null, .null, .null, .null, .null, .null])), (q1, .inl (cy 0, (3, .inl (fun _ => 0)))), (q2, .inl (cy 0, (3, .inl (fun _ => 0)))), (q3, .inl (cy 0, (3, .inl (fun _ => 0)))), (q4, .inl (cy 0, (16, .inl (fun _ => 0)))), (q5, .inl (cy 0, (16, .inl (fun _ => 0))))]) := hD
  refine lv_aload_n hx hb dX3_init_41 rfl (lv_at hl 0 rfl) ?_
  refine lv_bipush (v := (20 : Int32)) hx hb dX3_init_42 (by decide) ?_
  refine i_newI hx hb E hP hD hS hz (N := 20) (by decide) (by decide) (by decide) (Nat.le_of_ble_eq_true rfl) (Nat.le_of_ble_eq_true rfl) dX3_init_44 (fun q6 H hP hD hS => ?_)
  rw [List.append_assoc] at hP hD
  have hP : va_P D vwCl (W0 ++ [(a, .inr (3, [.int 0, .int 0, .int 0, .int 0, .int 0, .ref q1, .ref q2, .ref q3, .ref q4, .ref q5, .null, .null, .null, .null, .null, .null, .null])), (q1, .inl (cy 0, (3, .inl (fun _ => 0)))), (q2, .inl (cy 0, (3, .inl (fun _ => 0)))), (q3, .inl (cy 0, (3, .inl (fun _ => 0)))), (q4, .inl (cy 0, (16, .inl (fun _ => 0)))), (q5, .inl (cy 0, (16, .inl (fun _ => 0)))), (q6, .inl (cy 0, (20, .inl (fun _ => 0))))]) H := hP
  have hD : va_D (gA base) (W0 ++ [(a, .inr (3, [.int 0, .int 0, .int 0, .int 0, .int 0, .ref q1, .ref q2, .ref q3, .ref q4, .ref q5, .null, .null, .null, .null, .null, .null, .null])), (q1, .inl (cy 0, (3, .inl (fun _ => 0)))), (q2, .inl (cy 0, (3, .inl (fun _ => 0)))), (q3, .inl (cy 0, (3, .inl (fun _ => 0)))), (q4, .inl (cy 0, (16, .inl (fun _ => 0)))), (q5, .inl (cy 0, (16, .inl (fun _ => 0)))), (q6, .inl (cy 0, (20, .inl (fun _ => 0))))]) := hD
  refine W.widen (k := 6) (n := 61) (Nat.le_of_ble_eq_true rfl) (Nat.le_of_ble_eq_true rfl) ?_
  refine i_putF hx hb hown E hP hD hS hin 0 rfl gC_X3 10 (by decide) rfl rfl (tyX3_ok 10 (by decide)) rfl rfl kw_395 (Nat.le_of_ble_eq_true rfl) dX3_init_46 (fun H locs hP hD hS => ?_)
  have hP : va_P D vwCl (W0 ++ [(a, .inr (3, [.int 0, .int 0, .int 0, .int 0, .int 0, .ref q1, .ref q2, .ref q3, .ref q4, .ref q5, .ref q6, .null, .null, .null, .null, .null, .null])), (q1, .inl (cy 0, (3, .inl (fun _ => 0)))), (q2, .inl (cy 0, (3, .inl (fun _ => 0)))), (q3, .inl (cy 0, (3, .inl (fun _ => 0)))), (q4, .inl (cy 0, (16, .inl (fun _ => 0)))), (q5, .inl (cy 0, (16, .inl (fun _ => 0)))), (q6, .inl (cy 0, (20, .inl (fun _ => 0))))]) H := hP
  have hD : va_D (gA base) (W0 ++ [(a, .inr (3, [.int 0, .int 0, .int 0, .int 0, .int 0, .ref q1, .ref q2, .ref q3, .ref q4, .ref q5, .ref q6, .null, .null, .null, .null, .null, .null])), (q1, .inl (cy 0, (3, .inl (fun _ => 0)))), (q2, .inl (cy 0, (3, .inl (fun _ => 0)))), (q3, .inl (cy 0, (3, .inl (fun _ => 0)))), (q4, .inl (cy 0, (16, .inl (fun _ => 0)))), (q5, .inl (cy 0, (16, .inl (fun _ => 0)))), (q6, .inl (cy 0, (20, .inl (fun _ => 0))))]) := hD
  refine lv_aload_n hx hb dX3_init_49 rfl (lv_at hl 0 rfl) ?_
  refine lv_bipush (v := (20 : Int32)) hx hb dX3_init_50 (by decide) ?_
  refine i_newI hx hb E hP hD hS hz (N := 20) (by decide) (by decide) (by decide) (Nat.le_of_ble_eq_true rfl) (Nat.le_of_ble_eq_true rfl) dX3_init_52 (fun q7 H hP hD hS => ?_)
  rw [List.append_assoc] at hP hD
  have hP : va_P D vwCl (W0 ++ [(a, .inr (3, [.int 0, .int 0, .int 0, .int 0, .int 0, .ref q1, .ref q2, .ref q3, .ref q4, .ref q5, .ref q6, .null, .null, .null, .null, .null, .null])), (q1, .inl (cy 0, (3, .inl (fun _ => 0)))), (q2, .inl (cy 0, (3, .inl (fun _ => 0)))), (q3, .inl (cy 0, (3, .inl (fun _ => 0)))), (q4, .inl (cy 0, (16, .inl (fun _ => 0)))), (q5, .inl (cy 0, (16, .inl (fun _ => 0)))), (q6, .inl (cy 0, (20, .inl (fun _ => 0)))), (q7, .inl (cy 0, (20, .inl (fun _ => 0))))]) H := hP
  have hD : va_D (gA base) (W0 ++ [(a, .inr (3, [.int 0, .int 0, .int 0, .int 0, .int 0, .ref q1, .ref q2, .ref q3, .ref q4, .ref q5, .ref q6, .null, .null, .null, .null, .null, .null])), (q1, .inl (cy 0, (3, .inl (fun _ => 0)))), (q2, .inl (cy 0, (3, .inl (fun _ => 0)))), (q3, .inl (cy 0, (3, .inl (fun _ => 0)))), (q4, .inl (cy 0, (16, .inl (fun _ => 0)))), (q5, .inl (cy 0, (16, .inl (fun _ => 0)))), (q6, .inl (cy 0, (20, .inl (fun _ => 0)))), (q7, .inl (cy 0, (20, .inl (fun _ => 0))))]) := hD
  refine W.widen (k := 7) (n := 81) (Nat.le_of_ble_eq_true rfl) (Nat.le_of_ble_eq_true rfl) ?_
  refine i_putF hx hb hown E hP hD hS hin 0 rfl gC_X3 11 (by decide) rfl rfl (tyX3_ok 11 (by decide)) rfl rfl kw_401 (Nat.le_of_ble_eq_true rfl) dX3_init_54 (fun H locs hP hD hS => ?_)
  have hP : va_P D vwCl (W0 ++ [(a, .inr (3, [.int 0, .int 0, .int 0, .int 0, .int 0, .ref q1, .ref q2, .ref q3, .ref q4, .ref q5, .ref q6, .ref q7, .null, .null, .null, .null, .null])), (q1, .inl (cy 0, (3, .inl (fun _ => 0)))), (q2, .inl (cy 0, (3, .inl (fun _ => 0)))), (q3, .inl (cy 0, (3, .inl (fun _ => 0)))), (q4, .inl (cy 0, (16, .inl (fun _ => 0)))), (q5, .inl (cy 0, (16, .inl (fun _ => 0)))), (q6, .inl (cy 0, (20, .inl (fun _ => 0)))), (q7, .inl (cy 0, (20, .inl (fun _ => 0))))]) H := hP
  have hD : va_D (gA base) (W0 ++ [(a, .inr (3, [.int 0, .int 0, .int 0, .int 0, .int 0, .ref q1, .ref q2, .ref q3, .ref q4, .ref q5, .ref q6, .ref q7, .null, .null, .null, .null, .null])), (q1, .inl (cy 0, (3, .inl (fun _ => 0)))), (q2, .inl (cy 0, (3, .inl (fun _ => 0)))), (q3, .inl (cy 0, (3, .inl (fun _ => 0)))), (q4, .inl (cy 0, (16, .inl (fun _ => 0)))), (q5, .inl (cy 0, (16, .inl (fun _ => 0)))), (q6, .inl (cy 0, (20, .inl (fun _ => 0)))), (q7, .inl (cy 0, (20, .inl (fun _ => 0))))]) := hD
  refine lv_aload_n hx hb dX3_init_57 rfl (lv_at hl 0 rfl) ?_
  refine lv_bipush (v := (20 : Int32)) hx hb dX3_init_58 (by decide) ?_
  refine i_newI hx hb E hP hD hS hz (N := 20) (by decide) (by decide) (by decide) (Nat.le_of_ble_eq_true rfl) (Nat.le_of_ble_eq_true rfl) dX3_init_60 (fun q8 H hP hD hS => ?_)
  rw [List.append_assoc] at hP hD
  have hP : va_P D vwCl (W0 ++ [(a, .inr (3, [.int 0, .int 0, .int 0, .int 0, .int 0, .ref q1, .ref q2, .ref q3, .ref q4, .ref q5, .ref q6, .ref q7, .null, .null, .null, .null, .null])), (q1, .inl (cy 0, (3, .inl (fun _ => 0)))), (q2, .inl (cy 0, (3, .inl (fun _ => 0)))), (q3, .inl (cy 0, (3, .inl (fun _ => 0)))), (q4, .inl (cy 0, (16, .inl (fun _ => 0)))), (q5, .inl (cy 0, (16, .inl (fun _ => 0)))), (q6, .inl (cy 0, (20, .inl (fun _ => 0)))), (q7, .inl (cy 0, (20, .inl (fun _ => 0)))), (q8, .inl (cy 0, (20, .inl (fun _ => 0))))]) H := hP
  have hD : va_D (gA base) (W0 ++ [(a, .inr (3, [.int 0, .int 0, .int 0, .int 0, .int 0, .ref q1, .ref q2, .ref q3, .ref q4, .ref q5, .ref q6, .ref q7, .null, .null, .null, .null, .null])), (q1, .inl (cy 0, (3, .inl (fun _ => 0)))), (q2, .inl (cy 0, (3, .inl (fun _ => 0)))), (q3, .inl (cy 0, (3, .inl (fun _ => 0)))), (q4, .inl (cy 0, (16, .inl (fun _ => 0)))), (q5, .inl (cy 0, (16, .inl (fun _ => 0)))), (q6, .inl (cy 0, (20, .inl (fun _ => 0)))), (q7, .inl (cy 0, (20, .inl (fun _ => 0)))), (q8, .inl (cy 0, (20, .inl (fun _ => 0))))]) := hD
  refine W.widen (k := 8) (n := 101) (Nat.le_of_ble_eq_true rfl) (Nat.le_of_ble_eq_true rfl) ?_
  refine i_putF hx hb hown E hP hD hS hin 0 rfl gC_X3 12 (by decide) rfl rfl (tyX3_ok 12 (by decide)) rfl rfl kw_407 (Nat.le_of_ble_eq_true rfl) dX3_init_62 (fun H locs hP hD hS => ?_)
  have hP : va_P D vwCl (W0 ++ [(a, .inr (3, [.int 0, .int 0, .int 0, .int 0, .int 0, .ref q1, .ref q2, .ref q3, .ref q4, .ref q5, .ref q6, .ref q7, .ref q8, .null, .null, .null, .null])), (q1, .inl (cy 0, (3, .inl (fun _ => 0)))), (q2, .inl (cy 0, (3, .inl (fun _ => 0)))), (q3, .inl (cy 0, (3, .inl (fun _ => 0)))), (q4, .inl (cy 0, (16, .inl (fun _ => 0)))), (q5, .inl (cy 0, (16, .inl (fun _ => 0)))), (q6, .inl (cy 0, (20, .inl (fun _ => 0)))), (q7, .inl (cy 0, (20, .inl (fun _ => 0)))), (q8, .inl (cy 0, (20, .inl (fun _ => 0))))]) H := hP
  have hD : va_D (gA base) (W0 ++ [(a, .inr (3, [.int 0, .int 0, .int 0, .int 0, .int 0, .ref q1, .ref q2, .ref q3, .ref q4, .ref q5, .ref q6, .ref q7, .ref q8, .null, .null, .null, .null])), (q1, .inl (cy 0, (3, .inl (fun _ => 0)))), (q2, .inl (cy 0, (3, .inl (fun _ => 0)))), (q3, .inl (cy 0, (3, .inl (fun _ => 0)))), (q4, .inl (cy 0, (16, .inl (fun _ => 0)))), (q5, .inl (cy 0, (16, .inl (fun _ => 0)))), (q6, .inl (cy 0, (20, .inl (fun _ => 0)))), (q7, .inl (cy 0, (20, .inl (fun _ => 0)))), (q8, .inl (cy 0, (20, .inl (fun _ => 0))))]) := hD
  refine lv_aload_n hx hb dX3_init_65 rfl (lv_at hl 0 rfl) ?_
  refine lv_bipush (v := (20 : Int32)) hx hb dX3_init_66 (by decide) ?_
  refine i_newI hx hb E hP hD hS hz (N := 20) (by decide) (by decide) (by decide) (Nat.le_of_ble_eq_true rfl) (Nat.le_of_ble_eq_true rfl) dX3_init_68 (fun q9 H hP hD hS => ?_)
  rw [List.append_assoc] at hP hD
  have hP : va_P D vwCl (W0 ++ [(a, .inr (3, [.int 0, .int 0, .int 0, .int 0, .int 0, .ref q1, .ref q2, .ref q3, .ref q4, .ref q5, .ref q6, .ref q7, .ref q8, .null, .null, .null, .null])), (q1, .inl (cy 0, (3, .inl (fun _ => 0)))), (q2, .inl (cy 0, (3, .inl (fun _ => 0)))), (q3, .inl (cy 0, (3, .inl (fun _ => 0)))), (q4, .inl (cy 0, (16, .inl (fun _ => 0)))), (q5, .inl (cy 0, (16, .inl (fun _ => 0)))), (q6, .inl (cy 0, (20, .inl (fun _ => 0)))), (q7, .inl (cy 0, (20, .inl (fun _ => 0)))), (q8, .inl (cy 0, (20, .inl (fun _ => 0)))), (q9, .inl (cy 0, (20, .inl (fun _ => 0))))]) H := hP
  have hD : va_D (gA base) (W0 ++ [(a, .inr (3, [.int 0, .int 0, .int 0, .int 0, .int 0, .ref q1, .ref q2, .ref q3, .ref q4, .ref q5, .ref q6, .ref q7, .ref q8, .null, .null, .null, .null])), (q1, .inl (cy 0, (3, .inl (fun _ => 0)))), (q2, .inl (cy 0, (3, .inl (fun _ => 0)))), (q3, .inl (cy 0, (3, .inl (fun _ => 0)))), (q4, .inl (cy 0, (16, .inl (fun _ => 0)))), (q5, .inl (cy 0, (16, .inl (fun _ => 0)))), (q6, .inl (cy 0, (20, .inl (fun _ => 0)))), (q7, .inl (cy 0, (20, .inl (fun _ => 0)))), (q8, .inl (cy 0, (20, .inl (fun _ => 0)))), (q9, .inl (cy 0, (20, .inl (fun _ => 0))))]) := hD
  refine W.widen (k := 9) (n := 121) (Nat.le_of_ble_eq_true rfl) (Nat.le_of_ble_eq_true rfl) ?_
  refine i_putF hx hb hown E hP hD hS hin 0 rfl gC_X3 13 (by decide) rfl rfl (tyX3_ok 13 (by decide)) rfl rfl kw_410 (Nat.le_of_ble_eq_true rfl) dX3_init_70 (fun H locs hP hD hS => ?_)
  have hP : va_P D vwCl (W0 ++ [(a, .inr (3, [.int 0, .int 0, .int 0, .int 0, .int 0, .ref q1, .ref q2, .ref q3, .ref q4, .ref q5, .ref q6, .ref q7, .ref q8, .ref q9, .null, .null, .null])), (q1, .inl (cy 0, (3, .inl (fun _ => 0)))), (q2, .inl (cy 0, (3, .inl (fun _ => 0)))), (q3, .inl (cy 0, (3, .inl (fun _ => 0)))), (q4, .inl (cy 0, (16, .inl (fun _ => 0)))), (q5, .inl (cy 0, (16, .inl (fun _ => 0)))), (q6, .inl (cy 0, (20, .inl (fun _ => 0)))), (q7, .inl (cy 0, (20, .inl (fun _ => 0)))), (q8, .inl (cy 0, (20, .inl (fun _ => 0)))), (q9, .inl (cy 0, (20, .inl (fun _ => 0))))]) H := hP
  have hD : va_D (gA base) (W0 ++ [(a, .inr (3, [.int 0, .int 0, .int 0, .int 0, .int 0, .ref q1, .ref q2, .ref q3, .ref q4, .ref q5, .ref q6, .ref q7, .ref q8, .ref q9, .null, .null, .null])), (q1, .inl (cy 0, (3, .inl (fun _ => 0)))), (q2, .inl (cy 0, (3, .inl (fun _ => 0)))), (q3, .inl (cy 0, (3, .inl (fun _ => 0)))), (q4, .inl (cy 0, (16, .inl (fun _ => 0)))), (q5, .inl (cy 0, (16, .inl (fun _ => 0)))), (q6, .inl (cy 0, (20, .inl (fun _ => 0)))), (q7, .inl (cy 0, (20, .inl (fun _ => 0)))), (q8, .inl (cy 0, (20, .inl (fun _ => 0)))), (q9, .inl (cy 0, (20, .inl (fun _ => 0))))]) := hD
  refine lv_aload_n hx hb dX3_init_73 rfl (lv_at hl 0 rfl) ?_
  refine lv_sipush (v := (640 : Int32)) hx hb dX3_init_74 (by decide) ?_
  refine i_newI hx hb E hP hD hS hz (N := 640) (by decide) (by decide) (by decide) (Nat.le_of_ble_eq_true rfl) (Nat.le_of_ble_eq_true rfl) dX3_init_77 (fun q10 H hP hD hS => ?_)
  rw [List.append_assoc] at hP hD
  have hP : va_P D vwCl (W0 ++ [(a, .inr (3, [.int 0, .int 0, .int 0, .int 0, .int 0, .ref q1, .ref q2, .ref q3, .ref q4, .ref q5, .ref q6, .ref q7, .ref q8, .ref q9, .null, .null, .null])), (q1, .inl (cy 0, (3, .inl (fun _ => 0)))), (q2, .inl (cy 0, (3, .inl (fun _ => 0)))), (q3, .inl (cy 0, (3, .inl (fun _ => 0)))), (q4, .inl (cy 0, (16, .inl (fun _ => 0)))), (q5, .inl (cy 0, (16, .inl (fun _ => 0)))), (q6, .inl (cy 0, (20, .inl (fun _ => 0)))), (q7, .inl (cy 0, (20, .inl (fun _ => 0)))), (q8, .inl (cy 0, (20, .inl (fun _ => 0)))), (q9, .inl (cy 0, (20, .inl (fun _ => 0)))), (q10, .inl (cy 0, (640, .inl (fun _ => 0))))]) H := hP
  have hD : va_D (gA base) (W0 ++ [(a, .inr (3, [.int 0, .int 0, .int 0, .int 0, .int 0, .ref q1, .ref q2, .ref q3, .ref q4, .ref q5, .ref q6, .ref q7, .ref q8, .ref q9, .null, .null, .null])), (q1, .inl (cy 0, (3, .inl (fun _ => 0)))), (q2, .inl (cy 0, (3, .inl (fun _ => 0)))), (q3, .inl (cy 0, (3, .inl (fun _ => 0)))), (q4, .inl (cy 0, (16, .inl (fun _ => 0)))), (q5, .inl (cy 0, (16, .inl (fun _ => 0)))), (q6, .inl (cy 0, (20, .inl (fun _ => 0)))), (q7, .inl (cy 0, (20, .inl (fun _ => 0)))), (q8, .inl (cy 0, (20, .inl (fun _ => 0)))), (q9, .inl (cy 0, (20, .inl (fun _ => 0)))), (q10, .inl (cy 0, (640, .inl (fun _ => 0))))]) := hD
  refine W.widen (k := 10) (n := 761) (Nat.le_of_ble_eq_true rfl) (Nat.le_of_ble_eq_true rfl) ?_
  refine i_putF hx hb hown E hP hD hS hin 0 rfl gC_X3 14 (by decide) rfl rfl (tyX3_ok 14 (by decide)) rfl rfl kw_414 (Nat.le_of_ble_eq_true rfl) dX3_init_79 (fun H locs hP hD hS => ?_)
  have hP : va_P D vwCl (W0 ++ [(a, .inr (3, [.int 0, .int 0, .int 0, .int 0, .int 0, .ref q1, .ref q2, .ref q3, .ref q4, .ref q5, .ref q6, .ref q7, .ref q8, .ref q9, .ref q10, .null, .null])), (q1, .inl (cy 0, (3, .inl (fun _ => 0)))), (q2, .inl (cy 0, (3, .inl (fun _ => 0)))), (q3, .inl (cy 0, (3, .inl (fun _ => 0)))), (q4, .inl (cy 0, (16, .inl (fun _ => 0)))), (q5, .inl (cy 0, (16, .inl (fun _ => 0)))), (q6, .inl (cy 0, (20, .inl (fun _ => 0)))), (q7, .inl (cy 0, (20, .inl (fun _ => 0)))), (q8, .inl (cy 0, (20, .inl (fun _ => 0)))), (q9, .inl (cy 0, (20, .inl (fun _ => 0)))), (q10, .inl (cy 0, (640, .inl (fun _ => 0))))]) H := hP
  have hD : va_D (gA base) (W0 ++ [(a, .inr (3, [.int 0, .int 0, .int 0, .int 0, .int 0, .ref q1, .ref q2, .ref q3, .ref q4, .ref q5, .ref q6, .ref q7, .ref q8, .ref q9, .ref q10, .null, .null])), (q1, .inl (cy 0, (3, .inl (fun _ => 0)))), (q2, .inl (cy 0, (3, .inl (fun _ => 0)))), (q3, .inl (cy 0, (3, .inl (fun _ => 0)))), (q4, .inl (cy 0, (16, .inl (fun _ => 0)))), (q5, .inl (cy 0, (16, .inl (fun _ => 0)))), (q6, .inl (cy 0, (20, .inl (fun _ => 0)))), (q7, .inl (cy 0, (20, .inl (fun _ => 0)))), (q8, .inl (cy 0, (20, .inl (fun _ => 0)))), (q9, .inl (cy 0, (20, .inl (fun _ => 0)))), (q10, .inl (cy 0, (640, .inl (fun _ => 0))))]) := hD
  refine lv_aload_n hx hb dX3_init_82 rfl (lv_at hl 0 rfl) ?_
  refine lv_bipush (v := (6 : Int32)) hx hb dX3_init_83 (by decide) ?_
  refine i_newI hx hb E hP hD hS hz (N := 6) (by decide) (by decide) (by decide) (Nat.le_of_ble_eq_true rfl) (Nat.le_of_ble_eq_true rfl) dX3_init_85 (fun q11 H hP hD hS => ?_)
  rw [List.append_assoc] at hP hD
  have hP : va_P D vwCl (W0 ++ [(a, .inr (3, [.int 0, .int 0, .int 0, .int 0, .int 0, .ref q1, .ref q2, .ref q3, .ref q4, .ref q5, .ref q6, .ref q7, .ref q8, .ref q9, .ref q10, .null, .null])), (q1, .inl (cy 0, (3, .inl (fun _ => 0)))), (q2, .inl (cy 0, (3, .inl (fun _ => 0)))), (q3, .inl (cy 0, (3, .inl (fun _ => 0)))), (q4, .inl (cy 0, (16, .inl (fun _ => 0)))), (q5, .inl (cy 0, (16, .inl (fun _ => 0)))), (q6, .inl (cy 0, (20, .inl (fun _ => 0)))), (q7, .inl (cy 0, (20, .inl (fun _ => 0)))), (q8, .inl (cy 0, (20, .inl (fun _ => 0)))), (q9, .inl (cy 0, (20, .inl (fun _ => 0)))), (q10, .inl (cy 0, (640, .inl (fun _ => 0)))), (q11, .inl (cy 0, (6, .inl (fun _ => 0))))]) H := hP
  have hD : va_D (gA base) (W0 ++ [(a, .inr (3, [.int 0, .int 0, .int 0, .int 0, .int 0, .ref q1, .ref q2, .ref q3, .ref q4, .ref q5, .ref q6, .ref q7, .ref q8, .ref q9, .ref q10, .null, .null])), (q1, .inl (cy 0, (3, .inl (fun _ => 0)))), (q2, .inl (cy 0, (3, .inl (fun _ => 0)))), (q3, .inl (cy 0, (3, .inl (fun _ => 0)))), (q4, .inl (cy 0, (16, .inl (fun _ => 0)))), (q5, .inl (cy 0, (16, .inl (fun _ => 0)))), (q6, .inl (cy 0, (20, .inl (fun _ => 0)))), (q7, .inl (cy 0, (20, .inl (fun _ => 0)))), (q8, .inl (cy 0, (20, .inl (fun _ => 0)))), (q9, .inl (cy 0, (20, .inl (fun _ => 0)))), (q10, .inl (cy 0, (640, .inl (fun _ => 0)))), (q11, .inl (cy 0, (6, .inl (fun _ => 0))))]) := hD
  refine W.widen (k := 11) (n := 767) (Nat.le_of_ble_eq_true rfl) (Nat.le_of_ble_eq_true rfl) ?_
  refine i_putF hx hb hown E hP hD hS hin 0 rfl gC_X3 15 (by decide) rfl rfl (tyX3_ok 15 (by decide)) rfl rfl kw_418 (Nat.le_of_ble_eq_true rfl) dX3_init_87 (fun H locs hP hD hS => ?_)
  have hP : va_P D vwCl (W0 ++ [(a, .inr (3, [.int 0, .int 0, .int 0, .int 0, .int 0, .ref q1, .ref q2, .ref q3, .ref q4, .ref q5, .ref q6, .ref q7, .ref q8, .ref q9, .ref q10, .ref q11, .null])), (q1, .inl (cy 0, (3, .inl (fun _ => 0)))), (q2, .inl (cy 0, (3, .inl (fun _ => 0)))), (q3, .inl (cy 0, (3, .inl (fun _ => 0)))), (q4, .inl (cy 0, (16, .inl (fun _ => 0)))), (q5, .inl (cy 0, (16, .inl (fun _ => 0)))), (q6, .inl (cy 0, (20, .inl (fun _ => 0)))), (q7, .inl (cy 0, (20, .inl (fun _ => 0)))), (q8, .inl (cy 0, (20, .inl (fun _ => 0)))), (q9, .inl (cy 0, (20, .inl (fun _ => 0)))), (q10, .inl (cy 0, (640, .inl (fun _ => 0)))), (q11, .inl (cy 0, (6, .inl (fun _ => 0))))]) H := hP
  have hD : va_D (gA base) (W0 ++ [(a, .inr (3, [.int 0, .int 0, .int 0, .int 0, .int 0, .ref q1, .ref q2, .ref q3, .ref q4, .ref q5, .ref q6, .ref q7, .ref q8, .ref q9, .ref q10, .ref q11, .null])), (q1, .inl (cy 0, (3, .inl (fun _ => 0)))), (q2, .inl (cy 0, (3, .inl (fun _ => 0)))), (q3, .inl (cy 0, (3, .inl (fun _ => 0)))), (q4, .inl (cy 0, (16, .inl (fun _ => 0)))), (q5, .inl (cy 0, (16, .inl (fun _ => 0)))), (q6, .inl (cy 0, (20, .inl (fun _ => 0)))), (q7, .inl (cy 0, (20, .inl (fun _ => 0)))), (q8, .inl (cy 0, (20, .inl (fun _ => 0)))), (q9, .inl (cy 0, (20, .inl (fun _ => 0)))), (q10, .inl (cy 0, (640, .inl (fun _ => 0)))), (q11, .inl (cy 0, (6, .inl (fun _ => 0))))]) := hD
  refine lv_aload_n hx hb dX3_init_90 rfl (lv_at hl 0 rfl) ?_
  refine lv_bipush (v := (48 : Int32)) hx hb dX3_init_91 (by decide) ?_
  refine i_newI hx hb E hP hD hS hz (N := 48) (by decide) (by decide) (by decide) (Nat.le_of_ble_eq_true rfl) (Nat.le_of_ble_eq_true rfl) dX3_init_93 (fun q12 H hP hD hS => ?_)
  rw [List.append_assoc] at hP hD
  have hP : va_P D vwCl (W0 ++ [(a, .inr (3, [.int 0, .int 0, .int 0, .int 0, .int 0, .ref q1, .ref q2, .ref q3, .ref q4, .ref q5, .ref q6, .ref q7, .ref q8, .ref q9, .ref q10, .ref q11, .null])), (q1, .inl (cy 0, (3, .inl (fun _ => 0)))), (q2, .inl (cy 0, (3, .inl (fun _ => 0)))), (q3, .inl (cy 0, (3, .inl (fun _ => 0)))), (q4, .inl (cy 0, (16, .inl (fun _ => 0)))), (q5, .inl (cy 0, (16, .inl (fun _ => 0)))), (q6, .inl (cy 0, (20, .inl (fun _ => 0)))), (q7, .inl (cy 0, (20, .inl (fun _ => 0)))), (q8, .inl (cy 0, (20, .inl (fun _ => 0)))), (q9, .inl (cy 0, (20, .inl (fun _ => 0)))), (q10, .inl (cy 0, (640, .inl (fun _ => 0)))), (q11, .inl (cy 0, (6, .inl (fun _ => 0)))), (q12, .inl (cy 0, (48, .inl (fun _ => 0))))]) H := hP
  have hD : va_D (gA base) (W0 ++ [(a, .inr (3, [.int 0, .int 0, .int 0, .int 0, .int 0, .ref q1, .ref q2, .ref q3, .ref q4, .ref q5, .ref q6, .ref q7, .ref q8, .ref q9, .ref q10, .ref q11, .null])), (q1, .inl (cy 0, (3, .inl (fun _ => 0)))), (q2, .inl (cy 0, (3, .inl (fun _ => 0)))), (q3, .inl (cy 0, (3, .inl (fun _ => 0)))), (q4, .inl (cy 0, (16, .inl (fun _ => 0)))), (q5, .inl (cy 0, (16, .inl (fun _ => 0)))), (q6, .inl (cy 0, (20, .inl (fun _ => 0)))), (q7, .inl (cy 0, (20, .inl (fun _ => 0)))), (q8, .inl (cy 0, (20, .inl (fun _ => 0)))), (q9, .inl (cy 0, (20, .inl (fun _ => 0)))), (q10, .inl (cy 0, (640, .inl (fun _ => 0)))), (q11, .inl (cy 0, (6, .inl (fun _ => 0)))), (q12, .inl (cy 0, (48, .inl (fun _ => 0))))]) := hD
  refine W.widen (k := 12) (n := 815) (Nat.le_of_ble_eq_true rfl) (Nat.le_of_ble_eq_true rfl) ?_
  refine i_putF hx hb hown E hP hD hS hin 0 rfl gC_X3 16 (by decide) rfl rfl (tyX3_ok 16 (by decide)) rfl rfl kw_421 (Nat.le_of_ble_eq_true rfl) dX3_init_95 (fun H locs hP hD hS => ?_)
  have hP : va_P D vwCl (W0 ++ [(a, .inr (3, [.int 0, .int 0, .int 0, .int 0, .int 0, .ref q1, .ref q2, .ref q3, .ref q4, .ref q5, .ref q6, .ref q7, .ref q8, .ref q9, .ref q10, .ref q11, .ref q12])), (q1, .inl (cy 0, (3, .inl (fun _ => 0)))), (q2, .inl (cy 0, (3, .inl (fun _ => 0)))), (q3, .inl (cy 0, (3, .inl (fun _ => 0)))), (q4, .inl (cy 0, (16, .inl (fun _ => 0)))), (q5, .inl (cy 0, (16, .inl (fun _ => 0)))), (q6, .inl (cy 0, (20, .inl (fun _ => 0)))), (q7, .inl (cy 0, (20, .inl (fun _ => 0)))), (q8, .inl (cy 0, (20, .inl (fun _ => 0)))), (q9, .inl (cy 0, (20, .inl (fun _ => 0)))), (q10, .inl (cy 0, (640, .inl (fun _ => 0)))), (q11, .inl (cy 0, (6, .inl (fun _ => 0)))), (q12, .inl (cy 0, (48, .inl (fun _ => 0))))]) H := hP
  have hD : va_D (gA base) (W0 ++ [(a, .inr (3, [.int 0, .int 0, .int 0, .int 0, .int 0, .ref q1, .ref q2, .ref q3, .ref q4, .ref q5, .ref q6, .ref q7, .ref q8, .ref q9, .ref q10, .ref q11, .ref q12])), (q1, .inl (cy 0, (3, .inl (fun _ => 0)))), (q2, .inl (cy 0, (3, .inl (fun _ => 0)))), (q3, .inl (cy 0, (3, .inl (fun _ => 0)))), (q4, .inl (cy 0, (16, .inl (fun _ => 0)))), (q5, .inl (cy 0, (16, .inl (fun _ => 0)))), (q6, .inl (cy 0, (20, .inl (fun _ => 0)))), (q7, .inl (cy 0, (20, .inl (fun _ => 0)))), (q8, .inl (cy 0, (20, .inl (fun _ => 0)))), (q9, .inl (cy 0, (20, .inl (fun _ => 0)))), (q10, .inl (cy 0, (640, .inl (fun _ => 0)))), (q11, .inl (cy 0, (6, .inl (fun _ => 0)))), (q12, .inl (cy 0, (48, .inl (fun _ => 0))))]) := hD
  refine lv_aload_n hx hb dX3_init_98 rfl (lv_at hl 0 rfl) ?_
  refine i_callV hx hb (hml.trans hl.1.symm) hown E hP hD hS NI hz hy_X3_clear kw_346 (k_X3_clear (W0 := W0) (a := a) (f := (fun k => [a, q1, q2, q3, q4, q5, q6, q7, q8, q9, q10, q11, q12].getD k 0))) (W0.length + 0) (w_get rfl) rfl (Nat.le_of_ble_eq_true rfl) ⟨Nat.le_of_ble_eq_true rfl, Nat.le_of_ble_eq_true rfl⟩ ⟨Nat.le_of_ble_eq_true rfl, Nat.le_of_ble_eq_true rfl⟩ dX3_init_99 (fun ws2 H locs hp hP hD hS => ?_)
  subst hp
  have hP : va_P D vwCl (W0 ++ [(a, .inr (3, [.int 0, .int 0, .int 0, .int 0, .int 0, .ref q1, .ref q2, .ref q3, .ref q4, .ref q5, .ref q6, .ref q7, .ref q8, .ref q9, .ref q10, .ref q11, .ref q12])), (q1, .inl (cy 0, (3, .inl (upd (upd (upd (fun _ => 0) (0 : Int32).toNatClampNeg (sc 4 (0 : Int32).toNatClampNeg)) (1 : Int32).toNatClampNeg (sc 4 (1 : Int32).toNatClampNeg)) (2 : Int32).toNatClampNeg (sc 4 (2 : Int32).toNatClampNeg))))), (q2, .inl (cy 0, (3, .inl (fun _ => 0)))), (q3, .inl (cy 0, (3, .inl (fun _ => 0)))), (q4, .inl (cy 0, (16, .inl (fun _ => 0)))), (q5, .inl (cy 0, (16, .inl (fun _ => 0)))), (q6, .inl (cy 0, (20, .inl (fun _ => 0)))), (q7, .inl (cy 0, (20, .inl (fun _ => 0)))), (q8, .inl (cy 0, (20, .inl (fun _ => 0)))), (q9, .inl (cy 0, (20, .inl (fun _ => 0)))), (q10, .inl (cy 0, (640, .inl (fun _ => 0)))), (q11, .inl (cy 0, (6, .inl (fun _ => 0)))), (q12, .inl (cy 0, (48, .inl (fun _ => 0))))]) H := hP
  have hD : va_D (gA base) (W0 ++ [(a, .inr (3, [.int 0, .int 0, .int 0, .int 0, .int 0, .ref q1, .ref q2, .ref q3, .ref q4, .ref q5, .ref q6, .ref q7, .ref q8, .ref q9, .ref q10, .ref q11, .ref q12])), (q1, .inl (cy 0, (3, .inl (upd (upd (upd (fun _ => 0) (0 : Int32).toNatClampNeg (sc 4 (0 : Int32).toNatClampNeg)) (1 : Int32).toNatClampNeg (sc 4 (1 : Int32).toNatClampNeg)) (2 : Int32).toNatClampNeg (sc 4 (2 : Int32).toNatClampNeg))))), (q2, .inl (cy 0, (3, .inl (fun _ => 0)))), (q3, .inl (cy 0, (3, .inl (fun _ => 0)))), (q4, .inl (cy 0, (16, .inl (fun _ => 0)))), (q5, .inl (cy 0, (16, .inl (fun _ => 0)))), (q6, .inl (cy 0, (20, .inl (fun _ => 0)))), (q7, .inl (cy 0, (20, .inl (fun _ => 0)))), (q8, .inl (cy 0, (20, .inl (fun _ => 0)))), (q9, .inl (cy 0, (20, .inl (fun _ => 0)))), (q10, .inl (cy 0, (640, .inl (fun _ => 0)))), (q11, .inl (cy 0, (6, .inl (fun _ => 0)))), (q12, .inl (cy 0, (48, .inl (fun _ => 0))))]) := hD
  exact i_vret hx hb hr hlocks ⟨fun k => [a, q1, q2, q3, q4, q5, q6, q7, q8, q9, q10, q11, q12].getD k 0, rfl⟩ hP hD hS dX3_init_102
