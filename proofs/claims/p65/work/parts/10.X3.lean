theorem dJ6_bitCount_0f7a4_0 : decode cJ6_bitCount_0f7a4 0 = .ok (.iload_n 0, 1) := by decide +kernel
theorem dJ6_bitCount_0f7a4_1 : decode cJ6_bitCount_0f7a4 1 = .ok (.iload_n 0, 1) := by decide +kernel
theorem dJ6_bitCount_0f7a4_2 : decode cJ6_bitCount_0f7a4 2 = .ok (.iconst 1, 1) := by decide +kernel
theorem dJ6_bitCount_0f7a4_3 : decode cJ6_bitCount_0f7a4 3 = .ok (.iushr, 1) := by decide +kernel
theorem dJ6_bitCount_0f7a4_4 : decode cJ6_bitCount_0f7a4 4 = .ok (.ldc_w 265, 3) := by decide +kernel
theorem dJ6_bitCount_0f7a4_7 : decode cJ6_bitCount_0f7a4 7 = .ok (.iand, 1) := by decide +kernel
theorem dJ6_bitCount_0f7a4_8 : decode cJ6_bitCount_0f7a4 8 = .ok (.isub, 1) := by decide +kernel
theorem dJ6_bitCount_0f7a4_9 : decode cJ6_bitCount_0f7a4 9 = .ok (.istore_n 0, 1) := by decide +kernel
theorem dJ6_bitCount_0f7a4_10 : decode cJ6_bitCount_0f7a4 10 = .ok (.iload_n 0, 1) := by decide +kernel
theorem dJ6_bitCount_0f7a4_11 : decode cJ6_bitCount_0f7a4 11 = .ok (.ldc_w 266, 3) := by decide +kernel
theorem dJ6_bitCount_0f7a4_14 : decode cJ6_bitCount_0f7a4 14 = .ok (.iand, 1) := by decide +kernel
theorem dJ6_bitCount_0f7a4_15 : decode cJ6_bitCount_0f7a4 15 = .ok (.iload_n 0, 1) := by decide +kernel
theorem dJ6_bitCount_0f7a4_16 : decode cJ6_bitCount_0f7a4 16 = .ok (.iconst 2, 1) := by decide +kernel
theorem dJ6_bitCount_0f7a4_17 : decode cJ6_bitCount_0f7a4 17 = .ok (.iushr, 1) := by decide +kernel
theorem dJ6_bitCount_0f7a4_18 : decode cJ6_bitCount_0f7a4 18 = .ok (.ldc_w 266, 3) := by decide +kernel
theorem dJ6_bitCount_0f7a4_21 : decode cJ6_bitCount_0f7a4 21 = .ok (.iand, 1) := by decide +kernel
theorem dJ6_bitCount_0f7a4_22 : decode cJ6_bitCount_0f7a4 22 = .ok (.iadd, 1) := by decide +kernel
theorem dJ6_bitCount_0f7a4_23 : decode cJ6_bitCount_0f7a4 23 = .ok (.istore_n 0, 1) := by decide +kernel
theorem dJ6_bitCount_0f7a4_24 : decode cJ6_bitCount_0f7a4 24 = .ok (.iload_n 0, 1) := by decide +kernel
theorem dJ6_bitCount_0f7a4_25 : decode cJ6_bitCount_0f7a4 25 = .ok (.iload_n 0, 1) := by decide +kernel
theorem dJ6_bitCount_0f7a4_26 : decode cJ6_bitCount_0f7a4 26 = .ok (.iconst 4, 1) := by decide +kernel
theorem dJ6_bitCount_0f7a4_27 : decode cJ6_bitCount_0f7a4 27 = .ok (.iushr, 1) := by decide +kernel
theorem dJ6_bitCount_0f7a4_28 : decode cJ6_bitCount_0f7a4 28 = .ok (.iadd, 1) := by decide +kernel
theorem dJ6_bitCount_0f7a4_29 : decode cJ6_bitCount_0f7a4 29 = .ok (.ldc_w 267, 3) := by decide +kernel
theorem dJ6_bitCount_0f7a4_32 : decode cJ6_bitCount_0f7a4 32 = .ok (.iand, 1) := by decide +kernel
theorem dJ6_bitCount_0f7a4_33 : decode cJ6_bitCount_0f7a4 33 = .ok (.istore_n 0, 1) := by decide +kernel
theorem dJ6_bitCount_0f7a4_34 : decode cJ6_bitCount_0f7a4 34 = .ok (.iload_n 0, 1) := by decide +kernel
theorem dJ6_bitCount_0f7a4_35 : decode cJ6_bitCount_0f7a4 35 = .ok (.iload_n 0, 1) := by decide +kernel
theorem dJ6_bitCount_0f7a4_36 : decode cJ6_bitCount_0f7a4 36 = .ok (.bipush 8, 2) := by decide +kernel
theorem dJ6_bitCount_0f7a4_38 : decode cJ6_bitCount_0f7a4 38 = .ok (.iushr, 1) := by decide +kernel
theorem dJ6_bitCount_0f7a4_39 : decode cJ6_bitCount_0f7a4 39 = .ok (.iadd, 1) := by decide +kernel
theorem dJ6_bitCount_0f7a4_40 : decode cJ6_bitCount_0f7a4 40 = .ok (.istore_n 0, 1) := by decide +kernel
theorem dJ6_bitCount_0f7a4_41 : decode cJ6_bitCount_0f7a4 41 = .ok (.iload_n 0, 1) := by decide +kernel
theorem dJ6_bitCount_0f7a4_42 : decode cJ6_bitCount_0f7a4 42 = .ok (.iload_n 0, 1) := by decide +kernel
theorem dJ6_bitCount_0f7a4_43 : decode cJ6_bitCount_0f7a4 43 = .ok (.bipush 16, 2) := by decide +kernel
theorem dJ6_bitCount_0f7a4_45 : decode cJ6_bitCount_0f7a4 45 = .ok (.iushr, 1) := by decide +kernel
theorem dJ6_bitCount_0f7a4_46 : decode cJ6_bitCount_0f7a4 46 = .ok (.iadd, 1) := by decide +kernel
theorem dJ6_bitCount_0f7a4_47 : decode cJ6_bitCount_0f7a4 47 = .ok (.istore_n 0, 1) := by decide +kernel
theorem dJ6_bitCount_0f7a4_48 : decode cJ6_bitCount_0f7a4 48 = .ok (.iload_n 0, 1) := by decide +kernel
theorem dJ6_bitCount_0f7a4_49 : decode cJ6_bitCount_0f7a4 49 = .ok (.bipush 63, 2) := by decide +kernel
theorem dJ6_bitCount_0f7a4_51 : decode cJ6_bitCount_0f7a4 51 = .ok (.iand, 1) := by decide +kernel
theorem dJ6_bitCount_0f7a4_52 : decode cJ6_bitCount_0f7a4 52 = .ok (.ireturn, 1) := by decide +kernel
theorem dJ9_floorDiv_f86c9_0 : decode cJ9_floorDiv_f86c9 0 = .ok (.lload_n 0, 1) := by decide +kernel
theorem dJ9_floorDiv_f86c9_1 : decode cJ9_floorDiv_f86c9 1 = .ok (.lload_n 2, 1) := by decide +kernel
theorem dJ9_floorDiv_f86c9_2 : decode cJ9_floorDiv_f86c9 2 = .ok (.ldiv, 1) := by decide +kernel
theorem dJ9_floorDiv_f86c9_3 : decode cJ9_floorDiv_f86c9 3 = .ok (.lstore 4, 2) := by decide +kernel
theorem dJ9_floorDiv_f86c9_5 : decode cJ9_floorDiv_f86c9 5 = .ok (.lload_n 0, 1) := by decide +kernel
theorem dJ9_floorDiv_f86c9_6 : decode cJ9_floorDiv_f86c9 6 = .ok (.lload_n 2, 1) := by decide +kernel
theorem dJ9_floorDiv_f86c9_7 : decode cJ9_floorDiv_f86c9 7 = .ok (.lxor, 1) := by decide +kernel
theorem dJ9_floorDiv_f86c9_8 : decode cJ9_floorDiv_f86c9 8 = .ok (.lconst 0, 1) := by decide +kernel
theorem dJ9_floorDiv_f86c9_9 : decode cJ9_floorDiv_f86c9 9 = .ok (.lcmp, 1) := by decide +kernel
theorem dJ9_floorDiv_f86c9_10 : decode cJ9_floorDiv_f86c9 10 = .ok (.ifCond .ge 17, 3) := by decide +kernel
theorem dJ9_floorDiv_f86c9_13 : decode cJ9_floorDiv_f86c9 13 = .ok (.lload 4, 2) := by decide +kernel
theorem dJ9_floorDiv_f86c9_15 : decode cJ9_floorDiv_f86c9 15 = .ok (.lload_n 2, 1) := by decide +kernel
theorem dJ9_floorDiv_f86c9_16 : decode cJ9_floorDiv_f86c9 16 = .ok (.lmul, 1) := by decide +kernel
theorem dJ9_floorDiv_f86c9_17 : decode cJ9_floorDiv_f86c9 17 = .ok (.lload_n 0, 1) := by decide +kernel
theorem dJ9_floorDiv_f86c9_18 : decode cJ9_floorDiv_f86c9 18 = .ok (.lcmp, 1) := by decide +kernel
theorem dJ9_floorDiv_f86c9_19 : decode cJ9_floorDiv_f86c9 19 = .ok (.ifCond .eq 8, 3) := by decide +kernel
theorem dJ9_floorDiv_f86c9_22 : decode cJ9_floorDiv_f86c9 22 = .ok (.lload 4, 2) := by decide +kernel
theorem dJ9_floorDiv_f86c9_24 : decode cJ9_floorDiv_f86c9 24 = .ok (.lconst 1, 1) := by decide +kernel
theorem dJ9_floorDiv_f86c9_25 : decode cJ9_floorDiv_f86c9 25 = .ok (.lsub, 1) := by decide +kernel
theorem dJ9_floorDiv_f86c9_26 : decode cJ9_floorDiv_f86c9 26 = .ok (.lreturn, 1) := by decide +kernel
theorem dJ9_floorDiv_f86c9_27 : decode cJ9_floorDiv_f86c9 27 = .ok (.lload 4, 2) := by decide +kernel
theorem dJ9_floorDiv_f86c9_29 : decode cJ9_floorDiv_f86c9 29 = .ok (.lreturn, 1) := by decide +kernel
theorem dX3_findLevel_0 : decode cX3_findLevel 0 = .ok (.iconst 0, 1) := by decide +kernel
theorem dX3_findLevel_1 : decode cX3_findLevel 1 = .ok (.istore_n 2, 1) := by decide +kernel
theorem dX3_findLevel_2 : decode cX3_findLevel 2 = .ok (.iload_n 2, 1) := by decide +kernel
theorem dX3_findLevel_3 : decode cX3_findLevel 3 = .ok (.aload_n 0, 1) := by decide +kernel
theorem dX3_findLevel_4 : decode cX3_findLevel 4 = .ok (.getfield 51, 3) := by decide +kernel
theorem dX3_findLevel_7 : decode cX3_findLevel 7 = .ok (.if_icmp .ge 21, 3) := by decide +kernel
theorem dX3_findLevel_10 : decode cX3_findLevel 10 = .ok (.aload_n 0, 1) := by decide +kernel
theorem dX3_findLevel_11 : decode cX3_findLevel 11 = .ok (.getfield 15, 3) := by decide +kernel
theorem dX3_findLevel_14 : decode cX3_findLevel 14 = .ok (.iload_n 2, 1) := by decide +kernel
theorem dX3_findLevel_15 : decode cX3_findLevel 15 = .ok (.iaload, 1) := by decide +kernel
theorem dX3_findLevel_16 : decode cX3_findLevel 16 = .ok (.iload_n 1, 1) := by decide +kernel
theorem dX3_findLevel_17 : decode cX3_findLevel 17 = .ok (.if_icmp .ne 5, 3) := by decide +kernel
theorem dX3_findLevel_20 : decode cX3_findLevel 20 = .ok (.iload_n 2, 1) := by decide +kernel
theorem dX3_findLevel_21 : decode cX3_findLevel 21 = .ok (.ireturn, 1) := by decide +kernel
theorem dX3_findLevel_22 : decode cX3_findLevel 22 = .ok (.iinc 2 1, 3) := by decide +kernel
theorem dX3_findLevel_25 : decode cX3_findLevel 25 = .ok (.goto (-23), 3) := by decide +kernel
theorem dX3_findLevel_28 : decode cX3_findLevel 28 = .ok (.iconst (-1), 1) := by decide +kernel
theorem dX3_findLevel_29 : decode cX3_findLevel 29 = .ok (.ireturn, 1) := by decide +kernel
theorem dX3_findPoint_0 : decode cX3_findPoint 0 = .ok (.iconst 0, 1) := by decide +kernel
theorem dX3_findPoint_1 : decode cX3_findPoint 1 = .ok (.istore_n 2, 1) := by decide +kernel
theorem dX3_findPoint_2 : decode cX3_findPoint 2 = .ok (.iload_n 2, 1) := by decide +kernel
theorem dX3_findPoint_3 : decode cX3_findPoint 3 = .ok (.aload_n 0, 1) := by decide +kernel
theorem dX3_findPoint_4 : decode cX3_findPoint 4 = .ok (.getfield 55, 3) := by decide +kernel
theorem dX3_findPoint_7 : decode cX3_findPoint 7 = .ok (.if_icmp .ge 21, 3) := by decide +kernel
theorem dX3_findPoint_10 : decode cX3_findPoint 10 = .ok (.aload_n 0, 1) := by decide +kernel
theorem dX3_findPoint_11 : decode cX3_findPoint 11 = .ok (.getfield 21, 3) := by decide +kernel
theorem dX3_findPoint_14 : decode cX3_findPoint 14 = .ok (.iload_n 2, 1) := by decide +kernel
theorem dX3_findPoint_15 : decode cX3_findPoint 15 = .ok (.iaload, 1) := by decide +kernel
theorem dX3_findPoint_16 : decode cX3_findPoint 16 = .ok (.iload_n 1, 1) := by decide +kernel
theorem dX3_findPoint_17 : decode cX3_findPoint 17 = .ok (.if_icmp .ne 5, 3) := by decide +kernel
theorem dX3_findPoint_20 : decode cX3_findPoint 20 = .ok (.iload_n 2, 1) := by decide +kernel
theorem dX3_findPoint_21 : decode cX3_findPoint 21 = .ok (.ireturn, 1) := by decide +kernel
theorem dX3_findPoint_22 : decode cX3_findPoint 22 = .ok (.iinc 2 1, 3) := by decide +kernel
theorem dX3_findPoint_25 : decode cX3_findPoint 25 = .ok (.goto (-23), 3) := by decide +kernel
theorem dX3_findPoint_28 : decode cX3_findPoint 28 = .ok (.iconst (-1), 1) := by decide +kernel
theorem dX3_findPoint_29 : decode cX3_findPoint 29 = .ok (.ireturn, 1) := by decide +kernel
theorem dX3_countHeld_0 : decode cX3_countHeld 0 = .ok (.iconst 0, 1) := by decide +kernel
theorem dX3_countHeld_1 : decode cX3_countHeld 1 = .ok (.istore_n 1, 1) := by decide +kernel
theorem dX3_countHeld_2 : decode cX3_countHeld 2 = .ok (.iconst 0, 1) := by decide +kernel
theorem dX3_countHeld_3 : decode cX3_countHeld 3 = .ok (.istore_n 2, 1) := by decide +kernel
theorem dX3_countHeld_4 : decode cX3_countHeld 4 = .ok (.iload_n 2, 1) := by decide +kernel
theorem dX3_countHeld_5 : decode cX3_countHeld 5 = .ok (.aload_n 0, 1) := by decide +kernel
theorem dX3_countHeld_6 : decode cX3_countHeld 6 = .ok (.getfield 55, 3) := by decide +kernel
theorem dX3_countHeld_9 : decode cX3_countHeld 9 = .ok (.if_icmp .ge 22, 3) := by decide +kernel
theorem dX3_countHeld_12 : decode cX3_countHeld 12 = .ok (.aload_n 0, 1) := by decide +kernel
theorem dX3_countHeld_13 : decode cX3_countHeld 13 = .ok (.getfield 24, 3) := by decide +kernel
theorem dX3_countHeld_16 : decode cX3_countHeld 16 = .ok (.iload_n 2, 1) := by decide +kernel
theorem dX3_countHeld_17 : decode cX3_countHeld 17 = .ok (.iaload, 1) := by decide +kernel
theorem dX3_countHeld_18 : decode cX3_countHeld 18 = .ok (.iconst (-1), 1) := by decide +kernel
theorem dX3_countHeld_19 : decode cX3_countHeld 19 = .ok (.if_icmp .eq 6, 3) := by decide +kernel
theorem dX3_countHeld_22 : decode cX3_countHeld 22 = .ok (.iinc 1 1, 3) := by decide +kernel
theorem dX3_countHeld_25 : decode cX3_countHeld 25 = .ok (.iinc 2 1, 3) := by decide +kernel
theorem dX3_countHeld_28 : decode cX3_countHeld 28 = .ok (.goto (-24), 3) := by decide +kernel
theorem dX3_countHeld_31 : decode cX3_countHeld 31 = .ok (.iload_n 1, 1) := by decide +kernel
theorem dX3_countHeld_32 : decode cX3_countHeld 32 = .ok (.ireturn, 1) := by decide +kernel
theorem dX3_isActive_0 : decode cX3_isActive 0 = .ok (.aload_n 0, 1) := by decide +kernel
theorem dX3_isActive_1 : decode cX3_isActive 1 = .ok (.getfield 64, 3) := by decide +kernel
theorem dX3_isActive_4 : decode cX3_isActive 4 = .ok (.iload_n 1, 1) := by decide +kernel
theorem dX3_isActive_5 : decode cX3_isActive 5 = .ok (.ishr, 1) := by decide +kernel
theorem dX3_isActive_6 : decode cX3_isActive 6 = .ok (.iconst 1, 1) := by decide +kernel
theorem dX3_isActive_7 : decode cX3_isActive 7 = .ok (.iand, 1) := by decide +kernel
theorem dX3_isActive_8 : decode cX3_isActive 8 = .ok (.iconst 1, 1) := by decide +kernel
theorem dX3_isActive_9 : decode cX3_isActive 9 = .ok (.if_icmp .ne 7, 3) := by decide +kernel
theorem dX3_isActive_12 : decode cX3_isActive 12 = .ok (.iconst 1, 1) := by decide +kernel
theorem dX3_isActive_13 : decode cX3_isActive 13 = .ok (.goto 4, 3) := by decide +kernel
theorem dX3_isActive_16 : decode cX3_isActive 16 = .ok (.iconst 0, 1) := by decide +kernel
theorem dX3_isActive_17 : decode cX3_isActive 17 = .ok (.ireturn, 1) := by decide +kernel
theorem dX7_isIndex_0 : decode cX7_isIndex 0 = .ok (.iload_n 0, 1) := by decide +kernel
theorem dX7_isIndex_1 : decode cX7_isIndex 1 = .ok (.ifCond .lt 12, 3) := by decide +kernel
theorem dX7_isIndex_4 : decode cX7_isIndex 4 = .ok (.iload_n 0, 1) := by decide +kernel
theorem dX7_isIndex_5 : decode cX7_isIndex 5 = .ok (.iload_n 1, 1) := by decide +kernel
theorem dX7_isIndex_6 : decode cX7_isIndex 6 = .ok (.if_icmp .ge 7, 3) := by decide +kernel
theorem dX7_isIndex_9 : decode cX7_isIndex 9 = .ok (.iconst 1, 1) := by decide +kernel
theorem dX7_isIndex_10 : decode cX7_isIndex 10 = .ok (.goto 4, 3) := by decide +kernel
theorem dX7_isIndex_13 : decode cX7_isIndex 13 = .ok (.iconst 0, 1) := by decide +kernel
theorem dX7_isIndex_14 : decode cX7_isIndex 14 = .ok (.ireturn, 1) := by decide +kernel
theorem dX3_hasSetup_0 : decode cX3_hasSetup 0 = .ok (.iload_n 2, 1) := by decide +kernel
theorem dX3_hasSetup_1 : decode cX3_hasSetup 1 = .ok (.aload_n 0, 1) := by decide +kernel
theorem dX3_hasSetup_2 : decode cX3_hasSetup 2 = .ok (.getfield 36, 3) := by decide +kernel
theorem dX3_hasSetup_5 : decode cX3_hasSetup 5 = .ok (.iload_n 1, 1) := by decide +kernel
theorem dX3_hasSetup_6 : decode cX3_hasSetup 6 = .ok (.iaload, 1) := by decide +kernel
theorem dX3_hasSetup_7 : decode cX3_hasSetup 7 = .ok (.invokestatic 70, 3) := by decide +kernel
theorem dX3_hasSetup_10 : decode cX3_hasSetup 10 = .ok (.ireturn, 1) := by decide +kernel
theorem dX3_place_0 : decode cX3_place 0 = .ok (.iload_n 1, 1) := by decide +kernel
theorem dX3_place_1 : decode cX3_place 1 = .ok (.bipush 8, 2) := by decide +kernel
theorem dX3_place_3 : decode cX3_place 3 = .ok (.imul, 1) := by decide +kernel
theorem dX3_place_4 : decode cX3_place 4 = .ok (.iload_n 2, 1) := by decide +kernel
theorem dX3_place_5 : decode cX3_place 5 = .ok (.iadd, 1) := by decide +kernel
theorem dX3_place_6 : decode cX3_place 6 = .ok (.iconst 4, 1) := by decide +kernel
theorem dX3_place_7 : decode cX3_place 7 = .ok (.imul, 1) := by decide +kernel
theorem dX3_place_8 : decode cX3_place 8 = .ok (.ireturn, 1) := by decide +kernel
theorem dX3_setupRise_0 : decode cX3_setupRise 0 = .ok (.aload_n 0, 1) := by decide +kernel
theorem dX3_setupRise_1 : decode cX3_setupRise 1 = .ok (.iload_n 1, 1) := by decide +kernel
theorem dX3_setupRise_2 : decode cX3_setupRise 2 = .ok (.iload_n 2, 1) := by decide +kernel
theorem dX3_setupRise_3 : decode cX3_setupRise 3 = .ok (.invokevirtual 74, 3) := by decide +kernel
theorem dX3_setupRise_6 : decode cX3_setupRise 6 = .ok (.istore_n 3, 1) := by decide +kernel
theorem dX3_setupRise_7 : decode cX3_setupRise 7 = .ok (.bipush 100, 2) := by decide +kernel
theorem dX3_setupRise_9 : decode cX3_setupRise 9 = .ok (.aload_n 0, 1) := by decide +kernel
theorem dX3_setupRise_10 : decode cX3_setupRise 10 = .ok (.getfield 39, 3) := by decide +kernel
theorem dX3_setupRise_13 : decode cX3_setupRise 13 = .ok (.iload_n 3, 1) := by decide +kernel
theorem dX3_setupRise_14 : decode cX3_setupRise 14 = .ok (.iconst 0, 1) := by decide +kernel
theorem dX3_setupRise_15 : decode cX3_setupRise 15 = .ok (.iadd, 1) := by decide +kernel
theorem dX3_setupRise_16 : decode cX3_setupRise 16 = .ok (.iaload, 1) := by decide +kernel
theorem dX3_setupRise_17 : decode cX3_setupRise 17 = .ok (.aload_n 0, 1) := by decide +kernel
theorem dX3_setupRise_18 : decode cX3_setupRise 18 = .ok (.getfield 39, 3) := by decide +kernel
theorem dX3_setupRise_21 : decode cX3_setupRise 21 = .ok (.iload_n 3, 1) := by decide +kernel
theorem dX3_setupRise_22 : decode cX3_setupRise 22 = .ok (.iconst 1, 1) := by decide +kernel
theorem dX3_setupRise_23 : decode cX3_setupRise 23 = .ok (.iadd, 1) := by decide +kernel
theorem dX3_setupRise_24 : decode cX3_setupRise 24 = .ok (.iaload, 1) := by decide +kernel
theorem dX3_setupRise_25 : decode cX3_setupRise 25 = .ok (.isub, 1) := by decide +kernel
theorem dX3_setupRise_26 : decode cX3_setupRise 26 = .ok (.imul, 1) := by decide +kernel
theorem dX3_setupRise_27 : decode cX3_setupRise 27 = .ok (.aload_n 0, 1) := by decide +kernel
theorem dX3_setupRise_28 : decode cX3_setupRise 28 = .ok (.getfield 18, 3) := by decide +kernel
theorem dX3_setupRise_31 : decode cX3_setupRise 31 = .ok (.aload_n 0, 1) := by decide +kernel
theorem dX3_setupRise_32 : decode cX3_setupRise 32 = .ok (.getfield 33, 3) := by decide +kernel
theorem dX3_setupRise_35 : decode cX3_setupRise 35 = .ok (.iload_n 1, 1) := by decide +kernel
theorem dX3_setupRise_36 : decode cX3_setupRise 36 = .ok (.iaload, 1) := by decide +kernel
theorem dX3_setupRise_37 : decode cX3_setupRise 37 = .ok (.iaload, 1) := by decide +kernel
theorem dX3_setupRise_38 : decode cX3_setupRise 38 = .ok (.aload_n 0, 1) := by decide +kernel
theorem dX3_setupRise_39 : decode cX3_setupRise 39 = .ok (.getfield 39, 3) := by decide +kernel
theorem dX3_setupRise_42 : decode cX3_setupRise 42 = .ok (.iload_n 3, 1) := by decide +kernel
theorem dX3_setupRise_43 : decode cX3_setupRise 43 = .ok (.iconst 2, 1) := by decide +kernel
theorem dX3_setupRise_44 : decode cX3_setupRise 44 = .ok (.iadd, 1) := by decide +kernel
theorem dX3_setupRise_45 : decode cX3_setupRise 45 = .ok (.iaload, 1) := by decide +kernel
theorem dX3_setupRise_46 : decode cX3_setupRise 46 = .ok (.aload_n 0, 1) := by decide +kernel
theorem dX3_setupRise_47 : decode cX3_setupRise 47 = .ok (.getfield 39, 3) := by decide +kernel
theorem dX3_setupRise_50 : decode cX3_setupRise 50 = .ok (.iload_n 3, 1) := by decide +kernel
theorem dX3_setupRise_51 : decode cX3_setupRise 51 = .ok (.iconst 3, 1) := by decide +kernel
theorem dX3_setupRise_52 : decode cX3_setupRise 52 = .ok (.iadd, 1) := by decide +kernel
theorem dX3_setupRise_53 : decode cX3_setupRise 53 = .ok (.iaload, 1) := by decide +kernel
theorem dX3_setupRise_54 : decode cX3_setupRise 54 = .ok (.isub, 1) := by decide +kernel
theorem dX3_setupRise_55 : decode cX3_setupRise 55 = .ok (.imul, 1) := by decide +kernel
theorem dX3_setupRise_56 : decode cX3_setupRise 56 = .ok (.isub, 1) := by decide +kernel
theorem dX3_setupRise_57 : decode cX3_setupRise 57 = .ok (.ireturn, 1) := by decide +kernel
theorem dX3_lineRise_0 : decode cX3_lineRise 0 = .ok (.iconst 0, 1) := by decide +kernel
theorem dX3_lineRise_1 : decode cX3_lineRise 1 = .ok (.istore_n 2, 1) := by decide +kernel
theorem dX3_lineRise_2 : decode cX3_lineRise 2 = .ok (.iconst 0, 1) := by decide +kernel
theorem dX3_lineRise_3 : decode cX3_lineRise 3 = .ok (.istore_n 3, 1) := by decide +kernel
theorem dX3_lineRise_4 : decode cX3_lineRise 4 = .ok (.iload_n 3, 1) := by decide +kernel
theorem dX3_lineRise_5 : decode cX3_lineRise 5 = .ok (.aload_n 0, 1) := by decide +kernel
theorem dX3_lineRise_6 : decode cX3_lineRise 6 = .ok (.getfield 36, 3) := by decide +kernel
theorem dX3_lineRise_9 : decode cX3_lineRise 9 = .ok (.iload_n 1, 1) := by decide +kernel
theorem dX3_lineRise_10 : decode cX3_lineRise 10 = .ok (.iaload, 1) := by decide +kernel
theorem dX3_lineRise_11 : decode cX3_lineRise 11 = .ok (.if_icmp .ge 18, 3) := by decide +kernel
theorem dX3_lineRise_14 : decode cX3_lineRise 14 = .ok (.iload_n 2, 1) := by decide +kernel
theorem dX3_lineRise_15 : decode cX3_lineRise 15 = .ok (.aload_n 0, 1) := by decide +kernel
theorem dX3_lineRise_16 : decode cX3_lineRise 16 = .ok (.iload_n 1, 1) := by decide +kernel
theorem dX3_lineRise_17 : decode cX3_lineRise 17 = .ok (.iload_n 3, 1) := by decide +kernel
theorem dX3_lineRise_18 : decode cX3_lineRise 18 = .ok (.invokevirtual 78, 3) := by decide +kernel
theorem dX3_lineRise_21 : decode cX3_lineRise 21 = .ok (.iadd, 1) := by decide +kernel
theorem dX3_lineRise_22 : decode cX3_lineRise 22 = .ok (.istore_n 2, 1) := by decide +kernel
theorem dX3_lineRise_23 : decode cX3_lineRise 23 = .ok (.iinc 3 1, 3) := by decide +kernel
theorem dX3_lineRise_26 : decode cX3_lineRise 26 = .ok (.goto (-22), 3) := by decide +kernel
theorem dX3_lineRise_29 : decode cX3_lineRise 29 = .ok (.iload_n 2, 1) := by decide +kernel
theorem dX3_lineRise_30 : decode cX3_lineRise 30 = .ok (.ireturn, 1) := by decide +kernel
theorem dX3_riseFrom_0 : decode cX3_riseFrom 0 = .ok (.aload_n 0, 1) := by decide +kernel
theorem dX3_riseFrom_1 : decode cX3_riseFrom 1 = .ok (.getfield 27, 3) := by decide +kernel
theorem dX3_riseFrom_4 : decode cX3_riseFrom 4 = .ok (.iload_n 1, 1) := by decide +kernel
theorem dX3_riseFrom_5 : decode cX3_riseFrom 5 = .ok (.iaload, 1) := by decide +kernel
theorem dX3_riseFrom_6 : decode cX3_riseFrom 6 = .ok (.iload_n 2, 1) := by decide +kernel
theorem dX3_riseFrom_7 : decode cX3_riseFrom 7 = .ok (.if_icmp .ne 11, 3) := by decide +kernel
theorem dX3_riseFrom_10 : decode cX3_riseFrom 10 = .ok (.aload_n 0, 1) := by decide +kernel
theorem dX3_riseFrom_11 : decode cX3_riseFrom 11 = .ok (.iload_n 1, 1) := by decide +kernel
theorem dX3_riseFrom_12 : decode cX3_riseFrom 12 = .ok (.invokevirtual 81, 3) := by decide +kernel
theorem dX3_riseFrom_15 : decode cX3_riseFrom 15 = .ok (.goto 9, 3) := by decide +kernel
theorem dX3_riseFrom_18 : decode cX3_riseFrom 18 = .ok (.aload_n 0, 1) := by decide +kernel
theorem dX3_riseFrom_19 : decode cX3_riseFrom 19 = .ok (.iload_n 1, 1) := by decide +kernel
theorem dX3_riseFrom_20 : decode cX3_riseFrom 20 = .ok (.invokevirtual 81, 3) := by decide +kernel
theorem dX3_riseFrom_23 : decode cX3_riseFrom 23 = .ok (.ineg, 1) := by decide +kernel
theorem dX3_riseFrom_24 : decode cX3_riseFrom 24 = .ok (.ireturn, 1) := by decide +kernel
theorem dX3_lineLength_0 : decode cX3_lineLength 0 = .ok (.iconst 0, 1) := by decide +kernel
theorem dX3_lineLength_1 : decode cX3_lineLength 1 = .ok (.istore_n 2, 1) := by decide +kernel
theorem dX3_lineLength_2 : decode cX3_lineLength 2 = .ok (.iconst 0, 1) := by decide +kernel
theorem dX3_lineLength_3 : decode cX3_lineLength 3 = .ok (.istore_n 3, 1) := by decide +kernel
theorem dX3_lineLength_4 : decode cX3_lineLength 4 = .ok (.iload_n 3, 1) := by decide +kernel
theorem dX3_lineLength_5 : decode cX3_lineLength 5 = .ok (.aload_n 0, 1) := by decide +kernel
theorem dX3_lineLength_6 : decode cX3_lineLength 6 = .ok (.getfield 36, 3) := by decide +kernel
theorem dX3_lineLength_9 : decode cX3_lineLength 9 = .ok (.iload_n 1, 1) := by decide +kernel
theorem dX3_lineLength_10 : decode cX3_lineLength 10 = .ok (.iaload, 1) := by decide +kernel
theorem dX3_lineLength_11 : decode cX3_lineLength 11 = .ok (.if_icmp .ge 39, 3) := by decide +kernel
theorem dX3_lineLength_14 : decode cX3_lineLength 14 = .ok (.aload_n 0, 1) := by decide +kernel
theorem dX3_lineLength_15 : decode cX3_lineLength 15 = .ok (.iload_n 1, 1) := by decide +kernel
theorem dX3_lineLength_16 : decode cX3_lineLength 16 = .ok (.iload_n 3, 1) := by decide +kernel
theorem dX3_lineLength_17 : decode cX3_lineLength 17 = .ok (.invokevirtual 74, 3) := by decide +kernel
theorem dX3_lineLength_20 : decode cX3_lineLength 20 = .ok (.istore 4, 2) := by decide +kernel
theorem dX3_lineLength_22 : decode cX3_lineLength 22 = .ok (.iload_n 2, 1) := by decide +kernel
theorem dX3_lineLength_23 : decode cX3_lineLength 23 = .ok (.aload_n 0, 1) := by decide +kernel
theorem dX3_lineLength_24 : decode cX3_lineLength 24 = .ok (.getfield 39, 3) := by decide +kernel
theorem dX3_lineLength_27 : decode cX3_lineLength 27 = .ok (.iload 4, 2) := by decide +kernel
theorem dX3_lineLength_29 : decode cX3_lineLength 29 = .ok (.iconst 2, 1) := by decide +kernel
theorem dX3_lineLength_30 : decode cX3_lineLength 30 = .ok (.iadd, 1) := by decide +kernel
theorem dX3_lineLength_31 : decode cX3_lineLength 31 = .ok (.iaload, 1) := by decide +kernel
theorem dX3_lineLength_32 : decode cX3_lineLength 32 = .ok (.aload_n 0, 1) := by decide +kernel
theorem dX3_lineLength_33 : decode cX3_lineLength 33 = .ok (.getfield 39, 3) := by decide +kernel
theorem dX3_lineLength_36 : decode cX3_lineLength 36 = .ok (.iload 4, 2) := by decide +kernel
theorem dX3_lineLength_38 : decode cX3_lineLength 38 = .ok (.iconst 3, 1) := by decide +kernel
theorem dX3_lineLength_39 : decode cX3_lineLength 39 = .ok (.iadd, 1) := by decide +kernel
theorem dX3_lineLength_40 : decode cX3_lineLength 40 = .ok (.iaload, 1) := by decide +kernel
theorem dX3_lineLength_41 : decode cX3_lineLength 41 = .ok (.iadd, 1) := by decide +kernel
theorem dX3_lineLength_42 : decode cX3_lineLength 42 = .ok (.iadd, 1) := by decide +kernel
theorem dX3_lineLength_43 : decode cX3_lineLength 43 = .ok (.istore_n 2, 1) := by decide +kernel
theorem dX3_lineLength_44 : decode cX3_lineLength 44 = .ok (.iinc 3 1, 3) := by decide +kernel
theorem dX3_lineLength_47 : decode cX3_lineLength 47 = .ok (.goto (-43), 3) := by decide +kernel
theorem dX3_lineLength_50 : decode cX3_lineLength 50 = .ok (.iload_n 2, 1) := by decide +kernel
theorem dX3_lineLength_51 : decode cX3_lineLength 51 = .ok (.ireturn, 1) := by decide +kernel
theorem dX3_lineWeight_0 : decode cX3_lineWeight 0 = .ok (.aload_n 0, 1) := by decide +kernel
theorem dX3_lineWeight_1 : decode cX3_lineWeight 1 = .ok (.iload_n 1, 1) := by decide +kernel
theorem dX3_lineWeight_2 : decode cX3_lineWeight 2 = .ok (.invokevirtual 85, 3) := by decide +kernel
theorem dX3_lineWeight_5 : decode cX3_lineWeight 5 = .ok (.istore_n 2, 1) := by decide +kernel
theorem dX3_lineWeight_6 : decode cX3_lineWeight 6 = .ok (.iload_n 2, 1) := by decide +kernel
theorem dX3_lineWeight_7 : decode cX3_lineWeight 7 = .ok (.ifCond .le 10, 3) := by decide +kernel
theorem dX3_lineWeight_10 : decode cX3_lineWeight 10 = .ok (.ldc 88, 2) := by decide +kernel
theorem dX3_lineWeight_12 : decode cX3_lineWeight 12 = .ok (.iload_n 2, 1) := by decide +kernel
theorem dX3_lineWeight_13 : decode cX3_lineWeight 13 = .ok (.idiv, 1) := by decide +kernel
theorem dX3_lineWeight_14 : decode cX3_lineWeight 14 = .ok (.goto 4, 3) := by decide +kernel
theorem dX3_lineWeight_17 : decode cX3_lineWeight 17 = .ok (.iconst 0, 1) := by decide +kernel
theorem dX3_lineWeight_18 : decode cX3_lineWeight 18 = .ok (.ireturn, 1) := by decide +kernel
theorem dX3_across_0 : decode cX3_across 0 = .ok (.iload_n 1, 1) := by decide +kernel
theorem dX3_across_1 : decode cX3_across 1 = .ok (.iload_n 2, 1) := by decide +kernel
theorem dX3_across_2 : decode cX3_across 2 = .ok (.ishr, 1) := by decide +kernel
theorem dX3_across_3 : decode cX3_across 3 = .ok (.iconst 1, 1) := by decide +kernel
theorem dX3_across_4 : decode cX3_across 4 = .ok (.iand, 1) := by decide +kernel
theorem dX3_across_5 : decode cX3_across 5 = .ok (.ifCond .ne 5, 3) := by decide +kernel
theorem dX3_across_8 : decode cX3_across 8 = .ok (.iconst (-1), 1) := by decide +kernel
theorem dX3_across_9 : decode cX3_across 9 = .ok (.ireturn, 1) := by decide +kernel
theorem dX3_across_10 : decode cX3_across 10 = .ok (.aload_n 0, 1) := by decide +kernel
theorem dX3_across_11 : decode cX3_across 11 = .ok (.getfield 27, 3) := by decide +kernel
theorem dX3_across_14 : decode cX3_across 14 = .ok (.iload_n 2, 1) := by decide +kernel
theorem dX3_across_15 : decode cX3_across 15 = .ok (.iaload, 1) := by decide +kernel
theorem dX3_across_16 : decode cX3_across 16 = .ok (.iload_n 3, 1) := by decide +kernel
theorem dX3_across_17 : decode cX3_across 17 = .ok (.if_icmp .ne 10, 3) := by decide +kernel
theorem dX3_across_20 : decode cX3_across 20 = .ok (.aload_n 0, 1) := by decide +kernel
theorem dX3_across_21 : decode cX3_across 21 = .ok (.getfield 30, 3) := by decide +kernel
theorem dX3_across_24 : decode cX3_across 24 = .ok (.iload_n 2, 1) := by decide +kernel
theorem dX3_across_25 : decode cX3_across 25 = .ok (.iaload, 1) := by decide +kernel
theorem dX3_across_26 : decode cX3_across 26 = .ok (.ireturn, 1) := by decide +kernel
theorem dX3_across_27 : decode cX3_across 27 = .ok (.aload_n 0, 1) := by decide +kernel
theorem dX3_across_28 : decode cX3_across 28 = .ok (.getfield 30, 3) := by decide +kernel
theorem dX3_across_31 : decode cX3_across 31 = .ok (.iload_n 2, 1) := by decide +kernel
theorem dX3_across_32 : decode cX3_across 32 = .ok (.iaload, 1) := by decide +kernel
theorem dX3_across_33 : decode cX3_across 33 = .ok (.iload_n 3, 1) := by decide +kernel
theorem dX3_across_34 : decode cX3_across 34 = .ok (.if_icmp .ne 12, 3) := by decide +kernel
theorem dX3_across_37 : decode cX3_across 37 = .ok (.aload_n 0, 1) := by decide +kernel
theorem dX3_across_38 : decode cX3_across 38 = .ok (.getfield 27, 3) := by decide +kernel
theorem dX3_across_41 : decode cX3_across 41 = .ok (.iload_n 2, 1) := by decide +kernel
theorem dX3_across_42 : decode cX3_across 42 = .ok (.iaload, 1) := by decide +kernel
theorem dX3_across_43 : decode cX3_across 43 = .ok (.goto 4, 3) := by decide +kernel
theorem dX3_across_46 : decode cX3_across 46 = .ok (.iconst (-1), 1) := by decide +kernel
theorem dX3_across_47 : decode cX3_across 47 = .ok (.ireturn, 1) := by decide +kernel
theorem dX3_clear_0 : decode cX3_clear 0 = .ok (.aload_n 0, 1) := by decide +kernel
theorem dX3_clear_1 : decode cX3_clear 1 = .ok (.iconst 0, 1) := by decide +kernel
theorem dX3_clear_2 : decode cX3_clear 2 = .ok (.putfield 51, 3) := by decide +kernel
theorem dX3_clear_5 : decode cX3_clear 5 = .ok (.aload_n 0, 1) := by decide +kernel
theorem dX3_clear_6 : decode cX3_clear 6 = .ok (.iconst 0, 1) := by decide +kernel
theorem dX3_clear_7 : decode cX3_clear 7 = .ok (.putfield 55, 3) := by decide +kernel
theorem dX3_clear_10 : decode cX3_clear 10 = .ok (.aload_n 0, 1) := by decide +kernel
theorem dX3_clear_11 : decode cX3_clear 11 = .ok (.iconst 0, 1) := by decide +kernel
theorem dX3_clear_12 : decode cX3_clear 12 = .ok (.putfield 58, 3) := by decide +kernel
theorem dX3_clear_15 : decode cX3_clear 15 = .ok (.aload_n 0, 1) := by decide +kernel
theorem dX3_clear_16 : decode cX3_clear 16 = .ok (.iconst 0, 1) := by decide +kernel
theorem dX3_clear_17 : decode cX3_clear 17 = .ok (.putfield 61, 3) := by decide +kernel
theorem dX3_clear_20 : decode cX3_clear 20 = .ok (.aload_n 0, 1) := by decide +kernel
theorem dX3_clear_21 : decode cX3_clear 21 = .ok (.iconst 0, 1) := by decide +kernel
theorem dX3_clear_22 : decode cX3_clear 22 = .ok (.putfield 64, 3) := by decide +kernel
theorem dX3_clear_25 : decode cX3_clear 25 = .ok (.iconst 0, 1) := by decide +kernel
theorem dX3_clear_26 : decode cX3_clear 26 = .ok (.istore_n 1, 1) := by decide +kernel
theorem dX3_clear_27 : decode cX3_clear 27 = .ok (.iload_n 1, 1) := by decide +kernel
theorem dX3_clear_28 : decode cX3_clear 28 = .ok (.iconst 3, 1) := by decide +kernel
theorem dX3_clear_29 : decode cX3_clear 29 = .ok (.if_icmp .ge 20, 3) := by decide +kernel
theorem dX3_clear_32 : decode cX3_clear 32 = .ok (.aload_n 0, 1) := by decide +kernel
theorem dX3_clear_33 : decode cX3_clear 33 = .ok (.getfield 9, 3) := by decide +kernel
theorem dX3_clear_36 : decode cX3_clear 36 = .ok (.iload_n 1, 1) := by decide +kernel
theorem dX3_clear_37 : decode cX3_clear 37 = .ok (.getstatic 67, 3) := by decide +kernel
theorem dX3_clear_40 : decode cX3_clear 40 = .ok (.iload_n 1, 1) := by decide +kernel
theorem dX3_clear_41 : decode cX3_clear 41 = .ok (.iaload, 1) := by decide +kernel
theorem dX3_clear_42 : decode cX3_clear 42 = .ok (.iastore, 1) := by decide +kernel
theorem dX3_clear_43 : decode cX3_clear 43 = .ok (.iinc 1 1, 3) := by decide +kernel
theorem dX3_clear_46 : decode cX3_clear 46 = .ok (.goto (-19), 3) := by decide +kernel
theorem dX3_clear_49 : decode cX3_clear 49 = .ok (.return_, 1) := by decide +kernel
def f_J6_bitCount_0f7a4 (p1 : Int32) (μ : gM) : Option (Int32) :=
  some ((((((((p1 - ((p1.toUInt32 >>> ((1 : Int32).toUInt32 &&& Int32.toUInt32 31)).toInt32 &&& (1431655765 : Int32))) &&& (858993459 : Int32)) + (((p1 - ((p1.toUInt32 >>> ((1 : Int32).toUInt32 &&& Int32.toUInt32 31)).toInt32 &&& (1431655765 : Int32))).toUInt32 >>> ((2 : Int32).toUInt32 &&& Int32.toUInt32 31)).toInt32 &&& (858993459 : Int32))) + ((((p1 - ((p1.toUInt32 >>> ((1 : Int32).toUInt32 &&& Int32.toUInt32 31)).toInt32 &&& (1431655765 : Int32))) &&& (858993459 : Int32)) + (((p1 - ((p1.toUInt32 >>> ((1 : Int32).toUInt32 &&& Int32.toUInt32 31)).toInt32 &&& (1431655765 : Int32))).toUInt32 >>> ((2 : Int32).toUInt32 &&& Int32.toUInt32 31)).toInt32 &&& (858993459 : Int32))).toUInt32 >>> ((4 : Int32).toUInt32 &&& Int32.toUInt32 31)).toInt32) &&& (252645135 : Int32)) + ((((((p1 - ((p1.toUInt32 >>> ((1 : Int32).toUInt32 &&& Int32.toUInt32 31)).toInt32 &&& (1431655765 : Int32))) &&& (858993459 : Int32)) + (((p1 - ((p1.toUInt32 >>> ((1 : Int32).toUInt32 &&& Int32.toUInt32 31)).toInt32 &&& (1431655765 : Int32))).toUInt32 >>> ((2 : Int32).toUInt32 &&& Int32.toUInt32 31)).toInt32 &&& (858993459 : Int32))) + ((((p1 - ((p1.toUInt32 >>> ((1 : Int32).toUInt32 &&& Int32.toUInt32 31)).toInt32 &&& (1431655765 : Int32))) &&& (858993459 : Int32)) + (((p1 - ((p1.toUInt32 >>> ((1 : Int32).toUInt32 &&& Int32.toUInt32 31)).toInt32 &&& (1431655765 : Int32))).toUInt32 >>> ((2 : Int32).toUInt32 &&& Int32.toUInt32 31)).toInt32 &&& (858993459 : Int32))).toUInt32 >>> ((4 : Int32).toUInt32 &&& Int32.toUInt32 31)).toInt32) &&& (252645135 : Int32)).toUInt32 >>> ((8 : Int32).toUInt32 &&& Int32.toUInt32 31)).toInt32) + (((((((p1 - ((p1.toUInt32 >>> ((1 : Int32).toUInt32 &&& Int32.toUInt32 31)).toInt32 &&& (1431655765 : Int32))) &&& (858993459 : Int32)) + (((p1 - ((p1.toUInt32 >>> ((1 : Int32).toUInt32 &&& Int32.toUInt32 31)).toInt32 &&& (1431655765 : Int32))).toUInt32 >>> ((2 : Int32).toUInt32 &&& Int32.toUInt32 31)).toInt32 &&& (858993459 : Int32))) + ((((p1 - ((p1.toUInt32 >>> ((1 : Int32).toUInt32 &&& Int32.toUInt32 31)).toInt32 &&& (1431655765 : Int32))) &&& (858993459 : Int32)) + (((p1 - ((p1.toUInt32 >>> ((1 : Int32).toUInt32 &&& Int32.toUInt32 31)).toInt32 &&& (1431655765 : Int32))).toUInt32 >>> ((2 : Int32).toUInt32 &&& Int32.toUInt32 31)).toInt32 &&& (858993459 : Int32))).toUInt32 >>> ((4 : Int32).toUInt32 &&& Int32.toUInt32 31)).toInt32) &&& (252645135 : Int32)) + ((((((p1 - ((p1.toUInt32 >>> ((1 : Int32).toUInt32 &&& Int32.toUInt32 31)).toInt32 &&& (1431655765 : Int32))) &&& (858993459 : Int32)) + (((p1 - ((p1.toUInt32 >>> ((1 : Int32).toUInt32 &&& Int32.toUInt32 31)).toInt32 &&& (1431655765 : Int32))).toUInt32 >>> ((2 : Int32).toUInt32 &&& Int32.toUInt32 31)).toInt32 &&& (858993459 : Int32))) + ((((p1 - ((p1.toUInt32 >>> ((1 : Int32).toUInt32 &&& Int32.toUInt32 31)).toInt32 &&& (1431655765 : Int32))) &&& (858993459 : Int32)) + (((p1 - ((p1.toUInt32 >>> ((1 : Int32).toUInt32 &&& Int32.toUInt32 31)).toInt32 &&& (1431655765 : Int32))).toUInt32 >>> ((2 : Int32).toUInt32 &&& Int32.toUInt32 31)).toInt32 &&& (858993459 : Int32))).toUInt32 >>> ((4 : Int32).toUInt32 &&& Int32.toUInt32 31)).toInt32) &&& (252645135 : Int32)).toUInt32 >>> ((8 : Int32).toUInt32 &&& Int32.toUInt32 31)).toInt32).toUInt32 >>> ((16 : Int32).toUInt32 &&& Int32.toUInt32 31)).toInt32) &&& (63 : Int32))
set_option maxHeartbeats 4000000 in
set_option maxRecDepth 100000 in
theorem c_J6_bitCount_0f7a4 {l : Launch} {D : va_G} {cy : Nat → ClassId} {ad : Nat → Nat} {base : gBs} {p1 : Int32} {μ : gM} {RES : Int32} (h : f_J6_bitCount_0f7a4 p1 μ = some RES) : Met l yJ6_bitCount_0f7a4 [.code yJ6_bitCount_0f7a4 cJ6_bitCount_0f7a4 1 (some .int)] ({ frames := 0, cells := 0, slots := 0, locals := 0 } : Room) (va_Pc [.int p1] (gB l gFull D cy ad base μ)) (gQ (some (.int RES)) gFull D cy ad base μ) 0 0 (gA base) := by
  refine va_MetF (cc := cJ6_bitCount_0f7a4) (maxL := 1) (ret := (some .int)) (by decide +kernel) rfl ?_
  intro p e s m args below meth c s₁ B hml0 hv
  obtain ⟨rfl, E, hM⟩ := hv
  have F : gF p s m meth c cJ6_bitCount_0f7a4 RJ6 1 (some .int) := gF_of B hml0
  obtain ⟨hx, hb, hml, hown, hlocks, hr⟩ := id F
  have hS : va_S (gA base) s.heap s.heap [] := va_S.rf
  have hl := lv_entry ([.int p1]) (n := 1) (Nat.le_of_ble_eq_true rfl)
  rw [lg_entry_eq]
  generalize (lg_sl ([.int p1]) ++ List.replicate (1 - (lg_sl ([.int p1])).length) Slot.unset).toArray = ls at hl ⊢
  have hl : lv_has ls 1 [(0, .int p1)] := hl
  unfold f_J6_bitCount_0f7a4 at h
  refine lv_iload_n hx hb dJ6_bitCount_0f7a4_0 rfl (lv_at hl 0 rfl) ?_
  refine lv_iload_n hx hb dJ6_bitCount_0f7a4_1 rfl (lv_at hl 0 rfl) ?_
  refine lv_iconst (v := (1 : Int32)) hx hb dJ6_bitCount_0f7a4_2 (by decide) ?_
  refine lv_iushr (v := (p1.toUInt32 >>> ((1 : Int32).toUInt32 &&& Int32.toUInt32 31)).toInt32) hx hb dJ6_bitCount_0f7a4_3 rfl ?_
  refine lv_ldcw hx hb hown (v := (1431655765 : Int32)) (E.kw kw_1334) dJ6_bitCount_0f7a4_4 ?_
  refine lv_iand hx hb dJ6_bitCount_0f7a4_7 ?_
  refine lv_isub hx hb dJ6_bitCount_0f7a4_8 ?_
  refine lv_istore_n (lv' := [(0, .int (p1 - ((p1.toUInt32 >>> ((1 : Int32).toUInt32 &&& Int32.toUInt32 31)).toInt32 &&& (1431655765 : Int32))))]) hx hb dJ6_bitCount_0f7a4_9 rfl hl (by decide) rfl (fun ls hl => ?_)
  refine lv_iload_n hx hb dJ6_bitCount_0f7a4_10 rfl (lv_at hl 0 rfl) ?_
  refine lv_ldcw hx hb hown (v := (858993459 : Int32)) (E.kw kw_1335) dJ6_bitCount_0f7a4_11 ?_
  refine lv_iand hx hb dJ6_bitCount_0f7a4_14 ?_
  refine lv_iload_n hx hb dJ6_bitCount_0f7a4_15 rfl (lv_at hl 0 rfl) ?_
  refine lv_iconst (v := (2 : Int32)) hx hb dJ6_bitCount_0f7a4_16 (by decide) ?_
  refine lv_iushr (v := ((p1 - ((p1.toUInt32 >>> ((1 : Int32).toUInt32 &&& Int32.toUInt32 31)).toInt32 &&& (1431655765 : Int32))).toUInt32 >>> ((2 : Int32).toUInt32 &&& Int32.toUInt32 31)).toInt32) hx hb dJ6_bitCount_0f7a4_17 rfl ?_
  refine lv_ldcw hx hb hown (v := (858993459 : Int32)) (E.kw kw_1335) dJ6_bitCount_0f7a4_18 ?_
  refine lv_iand hx hb dJ6_bitCount_0f7a4_21 ?_
  refine lv_iadd hx hb dJ6_bitCount_0f7a4_22 ?_
  refine lv_istore_n (lv' := [(0, .int (((p1 - ((p1.toUInt32 >>> ((1 : Int32).toUInt32 &&& Int32.toUInt32 31)).toInt32 &&& (1431655765 : Int32))) &&& (858993459 : Int32)) + (((p1 - ((p1.toUInt32 >>> ((1 : Int32).toUInt32 &&& Int32.toUInt32 31)).toInt32 &&& (1431655765 : Int32))).toUInt32 >>> ((2 : Int32).toUInt32 &&& Int32.toUInt32 31)).toInt32 &&& (858993459 : Int32))))]) hx hb dJ6_bitCount_0f7a4_23 rfl hl (by decide) rfl (fun ls hl => ?_)
  refine lv_iload_n hx hb dJ6_bitCount_0f7a4_24 rfl (lv_at hl 0 rfl) ?_
  refine lv_iload_n hx hb dJ6_bitCount_0f7a4_25 rfl (lv_at hl 0 rfl) ?_
  refine lv_iconst (v := (4 : Int32)) hx hb dJ6_bitCount_0f7a4_26 (by decide) ?_
  refine lv_iushr (v := ((((p1 - ((p1.toUInt32 >>> ((1 : Int32).toUInt32 &&& Int32.toUInt32 31)).toInt32 &&& (1431655765 : Int32))) &&& (858993459 : Int32)) + (((p1 - ((p1.toUInt32 >>> ((1 : Int32).toUInt32 &&& Int32.toUInt32 31)).toInt32 &&& (1431655765 : Int32))).toUInt32 >>> ((2 : Int32).toUInt32 &&& Int32.toUInt32 31)).toInt32 &&& (858993459 : Int32))).toUInt32 >>> ((4 : Int32).toUInt32 &&& Int32.toUInt32 31)).toInt32) hx hb dJ6_bitCount_0f7a4_27 rfl ?_
  refine lv_iadd hx hb dJ6_bitCount_0f7a4_28 ?_
  refine lv_ldcw hx hb hown (v := (252645135 : Int32)) (E.kw kw_1336) dJ6_bitCount_0f7a4_29 ?_
  refine lv_iand hx hb dJ6_bitCount_0f7a4_32 ?_
  refine lv_istore_n (lv' := [(0, .int (((((p1 - ((p1.toUInt32 >>> ((1 : Int32).toUInt32 &&& Int32.toUInt32 31)).toInt32 &&& (1431655765 : Int32))) &&& (858993459 : Int32)) + (((p1 - ((p1.toUInt32 >>> ((1 : Int32).toUInt32 &&& Int32.toUInt32 31)).toInt32 &&& (1431655765 : Int32))).toUInt32 >>> ((2 : Int32).toUInt32 &&& Int32.toUInt32 31)).toInt32 &&& (858993459 : Int32))) + ((((p1 - ((p1.toUInt32 >>> ((1 : Int32).toUInt32 &&& Int32.toUInt32 31)).toInt32 &&& (1431655765 : Int32))) &&& (858993459 : Int32)) + (((p1 - ((p1.toUInt32 >>> ((1 : Int32).toUInt32 &&& Int32.toUInt32 31)).toInt32 &&& (1431655765 : Int32))).toUInt32 >>> ((2 : Int32).toUInt32 &&& Int32.toUInt32 31)).toInt32 &&& (858993459 : Int32))).toUInt32 >>> ((4 : Int32).toUInt32 &&& Int32.toUInt32 31)).toInt32) &&& (252645135 : Int32)))]) hx hb dJ6_bitCount_0f7a4_33 rfl hl (by decide) rfl (fun ls hl => ?_)
  refine lv_iload_n hx hb dJ6_bitCount_0f7a4_34 rfl (lv_at hl 0 rfl) ?_
  refine lv_iload_n hx hb dJ6_bitCount_0f7a4_35 rfl (lv_at hl 0 rfl) ?_
  refine lv_bipush (v := (8 : Int32)) hx hb dJ6_bitCount_0f7a4_36 (by decide) ?_
  refine lv_iushr (v := ((((((p1 - ((p1.toUInt32 >>> ((1 : Int32).toUInt32 &&& Int32.toUInt32 31)).toInt32 &&& (1431655765 : Int32))) &&& (858993459 : Int32)) + (((p1 - ((p1.toUInt32 >>> ((1 : Int32).toUInt32 &&& Int32.toUInt32 31)).toInt32 &&& (1431655765 : Int32))).toUInt32 >>> ((2 : Int32).toUInt32 &&& Int32.toUInt32 31)).toInt32 &&& (858993459 : Int32))) + ((((p1 - ((p1.toUInt32 >>> ((1 : Int32).toUInt32 &&& Int32.toUInt32 31)).toInt32 &&& (1431655765 : Int32))) &&& (858993459 : Int32)) + (((p1 - ((p1.toUInt32 >>> ((1 : Int32).toUInt32 &&& Int32.toUInt32 31)).toInt32 &&& (1431655765 : Int32))).toUInt32 >>> ((2 : Int32).toUInt32 &&& Int32.toUInt32 31)).toInt32 &&& (858993459 : Int32))).toUInt32 >>> ((4 : Int32).toUInt32 &&& Int32.toUInt32 31)).toInt32) &&& (252645135 : Int32)).toUInt32 >>> ((8 : Int32).toUInt32 &&& Int32.toUInt32 31)).toInt32) hx hb dJ6_bitCount_0f7a4_38 rfl ?_
  refine lv_iadd hx hb dJ6_bitCount_0f7a4_39 ?_
  refine lv_istore_n (lv' := [(0, .int ((((((p1 - ((p1.toUInt32 >>> ((1 : Int32).toUInt32 &&& Int32.toUInt32 31)).toInt32 &&& (1431655765 : Int32))) &&& (858993459 : Int32)) + (((p1 - ((p1.toUInt32 >>> ((1 : Int32).toUInt32 &&& Int32.toUInt32 31)).toInt32 &&& (1431655765 : Int32))).toUInt32 >>> ((2 : Int32).toUInt32 &&& Int32.toUInt32 31)).toInt32 &&& (858993459 : Int32))) + ((((p1 - ((p1.toUInt32 >>> ((1 : Int32).toUInt32 &&& Int32.toUInt32 31)).toInt32 &&& (1431655765 : Int32))) &&& (858993459 : Int32)) + (((p1 - ((p1.toUInt32 >>> ((1 : Int32).toUInt32 &&& Int32.toUInt32 31)).toInt32 &&& (1431655765 : Int32))).toUInt32 >>> ((2 : Int32).toUInt32 &&& Int32.toUInt32 31)).toInt32 &&& (858993459 : Int32))).toUInt32 >>> ((4 : Int32).toUInt32 &&& Int32.toUInt32 31)).toInt32) &&& (252645135 : Int32)) + ((((((p1 - ((p1.toUInt32 >>> ((1 : Int32).toUInt32 &&& Int32.toUInt32 31)).toInt32 &&& (1431655765 : Int32))) &&& (858993459 : Int32)) + (((p1 - ((p1.toUInt32 >>> ((1 : Int32).toUInt32 &&& Int32.toUInt32 31)).toInt32 &&& (1431655765 : Int32))).toUInt32 >>> ((2 : Int32).toUInt32 &&& Int32.toUInt32 31)).toInt32 &&& (858993459 : Int32))) + ((((p1 - ((p1.toUInt32 >>> ((1 : Int32).toUInt32 &&& Int32.toUInt32 31)).toInt32 &&& (1431655765 : Int32))) &&& (858993459 : Int32)) + (((p1 - ((p1.toUInt32 >>> ((1 : Int32).toUInt32 &&& Int32.toUInt32 31)).toInt32 &&& (1431655765 : Int32))).toUInt32 >>> ((2 : Int32).toUInt32 &&& Int32.toUInt32 31)).toInt32 &&& (858993459 : Int32))).toUInt32 >>> ((4 : Int32).toUInt32 &&& Int32.toUInt32 31)).toInt32) &&& (252645135 : Int32)).toUInt32 >>> ((8 : Int32).toUInt32 &&& Int32.toUInt32 31)).toInt32))]) hx hb dJ6_bitCount_0f7a4_40 rfl hl (by decide) rfl (fun ls hl => ?_)
  refine lv_iload_n hx hb dJ6_bitCount_0f7a4_41 rfl (lv_at hl 0 rfl) ?_
  refine lv_iload_n hx hb dJ6_bitCount_0f7a4_42 rfl (lv_at hl 0 rfl) ?_
  refine lv_bipush (v := (16 : Int32)) hx hb dJ6_bitCount_0f7a4_43 (by decide) ?_
  refine lv_iushr (v := (((((((p1 - ((p1.toUInt32 >>> ((1 : Int32).toUInt32 &&& Int32.toUInt32 31)).toInt32 &&& (1431655765 : Int32))) &&& (858993459 : Int32)) + (((p1 - ((p1.toUInt32 >>> ((1 : Int32).toUInt32 &&& Int32.toUInt32 31)).toInt32 &&& (1431655765 : Int32))).toUInt32 >>> ((2 : Int32).toUInt32 &&& Int32.toUInt32 31)).toInt32 &&& (858993459 : Int32))) + ((((p1 - ((p1.toUInt32 >>> ((1 : Int32).toUInt32 &&& Int32.toUInt32 31)).toInt32 &&& (1431655765 : Int32))) &&& (858993459 : Int32)) + (((p1 - ((p1.toUInt32 >>> ((1 : Int32).toUInt32 &&& Int32.toUInt32 31)).toInt32 &&& (1431655765 : Int32))).toUInt32 >>> ((2 : Int32).toUInt32 &&& Int32.toUInt32 31)).toInt32 &&& (858993459 : Int32))).toUInt32 >>> ((4 : Int32).toUInt32 &&& Int32.toUInt32 31)).toInt32) &&& (252645135 : Int32)) + ((((((p1 - ((p1.toUInt32 >>> ((1 : Int32).toUInt32 &&& Int32.toUInt32 31)).toInt32 &&& (1431655765 : Int32))) &&& (858993459 : Int32)) + (((p1 - ((p1.toUInt32 >>> ((1 : Int32).toUInt32 &&& Int32.toUInt32 31)).toInt32 &&& (1431655765 : Int32))).toUInt32 >>> ((2 : Int32).toUInt32 &&& Int32.toUInt32 31)).toInt32 &&& (858993459 : Int32))) + ((((p1 - ((p1.toUInt32 >>> ((1 : Int32).toUInt32 &&& Int32.toUInt32 31)).toInt32 &&& (1431655765 : Int32))) &&& (858993459 : Int32)) + (((p1 - ((p1.toUInt32 >>> ((1 : Int32).toUInt32 &&& Int32.toUInt32 31)).toInt32 &&& (1431655765 : Int32))).toUInt32 >>> ((2 : Int32).toUInt32 &&& Int32.toUInt32 31)).toInt32 &&& (858993459 : Int32))).toUInt32 >>> ((4 : Int32).toUInt32 &&& Int32.toUInt32 31)).toInt32) &&& (252645135 : Int32)).toUInt32 >>> ((8 : Int32).toUInt32 &&& Int32.toUInt32 31)).toInt32).toUInt32 >>> ((16 : Int32).toUInt32 &&& Int32.toUInt32 31)).toInt32) hx hb dJ6_bitCount_0f7a4_45 rfl ?_
  refine lv_iadd hx hb dJ6_bitCount_0f7a4_46 ?_
  refine lv_istore_n (lv' := [(0, .int (((((((p1 - ((p1.toUInt32 >>> ((1 : Int32).toUInt32 &&& Int32.toUInt32 31)).toInt32 &&& (1431655765 : Int32))) &&& (858993459 : Int32)) + (((p1 - ((p1.toUInt32 >>> ((1 : Int32).toUInt32 &&& Int32.toUInt32 31)).toInt32 &&& (1431655765 : Int32))).toUInt32 >>> ((2 : Int32).toUInt32 &&& Int32.toUInt32 31)).toInt32 &&& (858993459 : Int32))) + ((((p1 - ((p1.toUInt32 >>> ((1 : Int32).toUInt32 &&& Int32.toUInt32 31)).toInt32 &&& (1431655765 : Int32))) &&& (858993459 : Int32)) + (((p1 - ((p1.toUInt32 >>> ((1 : Int32).toUInt32 &&& Int32.toUInt32 31)).toInt32 &&& (1431655765 : Int32))).toUInt32 >>> ((2 : Int32).toUInt32 &&& Int32.toUInt32 31)).toInt32 &&& (858993459 : Int32))).toUInt32 >>> ((4 : Int32).toUInt32 &&& Int32.toUInt32 31)).toInt32) &&& (252645135 : Int32)) + ((((((p1 - ((p1.toUInt32 >>> ((1 : Int32).toUInt32 &&& Int32.toUInt32 31)).toInt32 &&& (1431655765 : Int32))) &&& (858993459 : Int32)) + (((p1 - ((p1.toUInt32 >>> ((1 : Int32).toUInt32 &&& Int32.toUInt32 31)).toInt32 &&& (1431655765 : Int32))).toUInt32 >>> ((2 : Int32).toUInt32 &&& Int32.toUInt32 31)).toInt32 &&& (858993459 : Int32))) + ((((p1 - ((p1.toUInt32 >>> ((1 : Int32).toUInt32 &&& Int32.toUInt32 31)).toInt32 &&& (1431655765 : Int32))) &&& (858993459 : Int32)) + (((p1 - ((p1.toUInt32 >>> ((1 : Int32).toUInt32 &&& Int32.toUInt32 31)).toInt32 &&& (1431655765 : Int32))).toUInt32 >>> ((2 : Int32).toUInt32 &&& Int32.toUInt32 31)).toInt32 &&& (858993459 : Int32))).toUInt32 >>> ((4 : Int32).toUInt32 &&& Int32.toUInt32 31)).toInt32) &&& (252645135 : Int32)).toUInt32 >>> ((8 : Int32).toUInt32 &&& Int32.toUInt32 31)).toInt32) + (((((((p1 - ((p1.toUInt32 >>> ((1 : Int32).toUInt32 &&& Int32.toUInt32 31)).toInt32 &&& (1431655765 : Int32))) &&& (858993459 : Int32)) + (((p1 - ((p1.toUInt32 >>> ((1 : Int32).toUInt32 &&& Int32.toUInt32 31)).toInt32 &&& (1431655765 : Int32))).toUInt32 >>> ((2 : Int32).toUInt32 &&& Int32.toUInt32 31)).toInt32 &&& (858993459 : Int32))) + ((((p1 - ((p1.toUInt32 >>> ((1 : Int32).toUInt32 &&& Int32.toUInt32 31)).toInt32 &&& (1431655765 : Int32))) &&& (858993459 : Int32)) + (((p1 - ((p1.toUInt32 >>> ((1 : Int32).toUInt32 &&& Int32.toUInt32 31)).toInt32 &&& (1431655765 : Int32))).toUInt32 >>> ((2 : Int32).toUInt32 &&& Int32.toUInt32 31)).toInt32 &&& (858993459 : Int32))).toUInt32 >>> ((4 : Int32).toUInt32 &&& Int32.toUInt32 31)).toInt32) &&& (252645135 : Int32)) + ((((((p1 - ((p1.toUInt32 >>> ((1 : Int32).toUInt32 &&& Int32.toUInt32 31)).toInt32 &&& (1431655765 : Int32))) &&& (858993459 : Int32)) + (((p1 - ((p1.toUInt32 >>> ((1 : Int32).toUInt32 &&& Int32.toUInt32 31)).toInt32 &&& (1431655765 : Int32))).toUInt32 >>> ((2 : Int32).toUInt32 &&& Int32.toUInt32 31)).toInt32 &&& (858993459 : Int32))) + ((((p1 - ((p1.toUInt32 >>> ((1 : Int32).toUInt32 &&& Int32.toUInt32 31)).toInt32 &&& (1431655765 : Int32))) &&& (858993459 : Int32)) + (((p1 - ((p1.toUInt32 >>> ((1 : Int32).toUInt32 &&& Int32.toUInt32 31)).toInt32 &&& (1431655765 : Int32))).toUInt32 >>> ((2 : Int32).toUInt32 &&& Int32.toUInt32 31)).toInt32 &&& (858993459 : Int32))).toUInt32 >>> ((4 : Int32).toUInt32 &&& Int32.toUInt32 31)).toInt32) &&& (252645135 : Int32)).toUInt32 >>> ((8 : Int32).toUInt32 &&& Int32.toUInt32 31)).toInt32).toUInt32 >>> ((16 : Int32).toUInt32 &&& Int32.toUInt32 31)).toInt32))]) hx hb dJ6_bitCount_0f7a4_47 rfl hl (by decide) rfl (fun ls hl => ?_)
  refine lv_iload_n hx hb dJ6_bitCount_0f7a4_48 rfl (lv_at hl 0 rfl) ?_
  refine lv_bipush (v := (63 : Int32)) hx hb dJ6_bitCount_0f7a4_49 (by decide) ?_
  refine lv_iand hx hb dJ6_bitCount_0f7a4_51 ?_
  obtain rfl := Option.some.inj h
  exact g_iret hx hb hr hlocks hM hS dJ6_bitCount_0f7a4_52
def f_J9_floorDiv_f86c9 (p1 : Int64) (p2 : Int64) (μ : gM) : Option (Int64) :=
  gchk (¬ p2 = 0) (if ((0 : Int64) ≤ (p1 ^^^ p2)) then some (p1 / p2) else if (((p1 / p2) * p2) = p1) then some (p1 / p2) else some ((p1 / p2) - (1 : Int64)))
set_option maxHeartbeats 4000000 in
set_option maxRecDepth 100000 in
theorem c_J9_floorDiv_f86c9 {l : Launch} {D : va_G} {cy : Nat → ClassId} {ad : Nat → Nat} {base : gBs} {p1 : Int64} {p2 : Int64} {μ : gM} {RES : Int64} (h : f_J9_floorDiv_f86c9 p1 p2 μ = some RES) : Met l yJ9_floorDiv_f86c9 [.code yJ9_floorDiv_f86c9 cJ9_floorDiv_f86c9 6 (some .long)] ({ frames := 0, cells := 0, slots := 0, locals := 0 } : Room) (va_Pc [.long p1, .long p2] (gB l gFull D cy ad base μ)) (gQ (some (.long RES)) gFull D cy ad base μ) 0 0 (gA base) := by
  refine va_MetF (cc := cJ9_floorDiv_f86c9) (maxL := 6) (ret := (some .long)) (by decide +kernel) rfl ?_
  intro p e s m args below meth c s₁ B hml0 hv
  obtain ⟨rfl, E, hM⟩ := hv
  have F : gF p s m meth c cJ9_floorDiv_f86c9 RJ9 6 (some .long) := gF_of B hml0
  obtain ⟨hx, hb, hml, hown, hlocks, hr⟩ := id F
  have hS : va_S (gA base) s.heap s.heap [] := va_S.rf
  have hl := lv_entry ([.long p1, .long p2]) (n := 6) (Nat.le_of_ble_eq_true rfl)
  rw [lg_entry_eq]
  generalize (lg_sl ([.long p1, .long p2]) ++ List.replicate (6 - (lg_sl ([.long p1, .long p2])).length) Slot.unset).toArray = ls at hl ⊢
  have hl : lv_has ls 6 [(0, .long p1), (2, .long p2)] := hl
  unfold f_J9_floorDiv_f86c9 at h
  refine lv_lload_n hx hb dJ9_floorDiv_f86c9_0 rfl (lv_at hl 0 rfl) ?_
  refine lv_lload_n hx hb dJ9_floorDiv_f86c9_1 rfl (lv_at hl 1 rfl) ?_
  obtain ⟨c3, h⟩ := gchk_e h
  refine lv_ldiv hx hb dJ9_floorDiv_f86c9_2 c3 ?_
  refine lv_lstore (lv' := [(4, .long (p1 / p2)), (0, .long p1), (2, .long p2)]) hx hb dJ9_floorDiv_f86c9_3 hl (by decide) rfl (fun ls hl => ?_)
  refine lv_lload_n hx hb dJ9_floorDiv_f86c9_5 rfl (lv_at hl 1 rfl) ?_
  refine lv_lload_n hx hb dJ9_floorDiv_f86c9_6 rfl (lv_at hl 2 rfl) ?_
  refine lv_lxor hx hb dJ9_floorDiv_f86c9_7 ?_
  refine lv_lconst (v := (0 : Int64)) hx hb dJ9_floorDiv_f86c9_8 (by decide) ?_
  refine W.lcmp hx hb dJ9_floorDiv_f86c9_9 ?_
  refine lv_if_ge (tgt := 27) hx hb dJ9_floorDiv_f86c9_10 (by decide) (fun c1 => ?_) (fun c1 => ?_)
  · replace c1 := (lg_cmp_ge _ _).mp c1
    replace h := gif_t c1 h
    refine lv_lload hx hb dJ9_floorDiv_f86c9_27 (lv_at hl 0 rfl) ?_
    obtain rfl := Option.some.inj h
    exact g_lret hx hb hr hlocks hM hS dJ9_floorDiv_f86c9_29
  · replace c1 := fun w => c1 ((lg_cmp_ge _ _).mpr w)
    replace h := gif_f c1 h
    refine lv_lload hx hb dJ9_floorDiv_f86c9_13 (lv_at hl 0 rfl) ?_
    refine lv_lload_n hx hb dJ9_floorDiv_f86c9_15 rfl (lv_at hl 2 rfl) ?_
    refine lv_lmul hx hb dJ9_floorDiv_f86c9_16 ?_
    refine lv_lload_n hx hb dJ9_floorDiv_f86c9_17 rfl (lv_at hl 1 rfl) ?_
    refine W.lcmp hx hb dJ9_floorDiv_f86c9_18 ?_
    refine lv_if_eq (tgt := 27) hx hb dJ9_floorDiv_f86c9_19 (by decide) (fun c2 => ?_) (fun c2 => ?_)
    · replace c2 := (lg_cmp_eq _ _).mp c2
      replace h := gif_t c2 h
      refine lv_lload hx hb dJ9_floorDiv_f86c9_27 (lv_at hl 0 rfl) ?_
      obtain rfl := Option.some.inj h
      exact g_lret hx hb hr hlocks hM hS dJ9_floorDiv_f86c9_29
    · replace c2 := fun w => c2 ((lg_cmp_eq _ _).mpr w)
      replace h := gif_f c2 h
      refine lv_lload hx hb dJ9_floorDiv_f86c9_22 (lv_at hl 0 rfl) ?_
      refine lv_lconst (v := (1 : Int64)) hx hb dJ9_floorDiv_f86c9_24 (by decide) ?_
      refine lv_lsub hx hb dJ9_floorDiv_f86c9_25 ?_
      obtain rfl := Option.some.inj h
      exact g_lret hx hb hr hlocks hM hS dJ9_floorDiv_f86c9_26
def b_X3_findLevel_2 (x1 : Int32) (x2 : Int32) (μ : gM) : Option ((Int32) ⊕ ((Unit) ⊕ (Int32))) :=
  if ((gi μ 34 0) ≤ x2) then some (.inr (.inl ())) else gchk (gIn x2 3) (if ((gi μ 36 x2.toNatClampNeg) = x1) then some (.inr (.inr x2)) else some (.inl (x2 + (1 : Int32))))
set_option maxHeartbeats 4000000 in
set_option maxRecDepth 100000 in
theorem wb_X3_findLevel_2 {p : Program} {l : Launch} {e : Env} {s : State} {m : MethodId} {args : Array Value} {below : List Frame} {meth : Method} {c : Code} {D : va_G} {cy : Nat → ClassId} {ad : Nat → Nat} {base : gBs} {x1 : Int32} {x2 : Int32} {μ : gM} {o : (Int32) ⊕ ((Unit) ⊕ (Int32))} {RES : Int32} (h : b_X3_findLevel_2 x1 x2 μ = some o) (F : gF p s m meth c cX3_findLevel RX3 3 (some .int)) (E : gEnv l D cy ad base s) (kc : ∀ (t : Int32) {H : Heap} {locs : List Loc} {ls : Array Slot}, o = .inl t → gW gFull D cy ad base μ H → va_S (gA base) s.heap H locs → lv_has ls 3 [(0, .ref (ad 34)), (1, .int x1), (2, .int t)] → W p l e ({ frames := 0, cells := 0, slots := 0, locals := 0 } : Room) s m args below meth c H locs 0 0 (MQ below (gQ (some (.int RES)) gFull D cy ad base μ) args s 0 0 (gA base)) (F0 m 2 ls [])) (kx : ∀ (t : Unit) {H : Heap} {locs : List Loc} {ls : Array Slot}, o = .inr (.inl t) → gW gFull D cy ad base μ H → va_S (gA base) s.heap H locs → lv_has ls 3 [] → W p l e ({ frames := 0, cells := 0, slots := 0, locals := 0 } : Room) s m args below meth c H locs 0 0 (MQ below (gQ (some (.int RES)) gFull D cy ad base μ) args s 0 0 (gA base)) (F0 m 28 ls [])) (kr : ∀ x : Int32, o = .inr (.inr x) → x = RES) {H : Heap} {locs : List Loc} {ls : Array Slot} (hM : gW gFull D cy ad base μ H) (hS : va_S (gA base) s.heap H locs) (hl : lv_has ls 3 [(0, .ref (ad 34)), (1, .int x1), (2, .int x2)]) : W p l e ({ frames := 0, cells := 0, slots := 0, locals := 0 } : Room) s m args below meth c H locs 0 0 (MQ below (gQ (some (.int RES)) gFull D cy ad base μ) args s 0 0 (gA base)) (F0 m 2 ls []) := by
  obtain ⟨hx, hb, hml, hown, hlocks, hr⟩ := id F
  unfold b_X3_findLevel_2 at h
  refine lv_iload_n hx hb dX3_findLevel_2 rfl (lv_at hl 2 rfl) ?_
  refine lv_aload_n hx hb dX3_findLevel_3 rfl (lv_at hl 0 rfl) ?_
  refine gg_34_0 hx hb hown E hM hk_34 kw_389 dX3_findLevel_4 ?_
  refine lv_icmp_ge (tgt := 28) hx hb dX3_findLevel_7 (by decide) (fun c1 => ?_) (fun c1 => ?_)
  · replace h := gif_t c1 h
    exact kx _ (Option.some.inj h).symm hM hS (lv_sub hl [] rfl)
  · replace h := gif_f c1 h
    refine lv_aload_n hx hb dX3_findLevel_10 rfl (lv_at hl 0 rfl) ?_
    refine gg_34_6 hx hb hown E hM hk_34 kw_415 dX3_findLevel_11 ?_
    refine lv_iload_n hx hb dX3_findLevel_14 rfl (lv_at hl 2 rfl) ?_
    obtain ⟨c2, h⟩ := gchk_e h
    refine g_iald hx hb E hM hk_36 dd_36 c2 dX3_findLevel_15 ?_
    refine lv_iload_n hx hb dX3_findLevel_16 rfl (lv_at hl 1 rfl) ?_
    refine lv_icmp_ne (tgt := 22) hx hb dX3_findLevel_17 (by decide) (fun c3 => ?_) (fun c3 => ?_)
    · replace h := gif_f c3 h
      refine lv_iinc (v := (x2 + (1 : Int32))) (lv' := [(2, .int (x2 + (1 : Int32))), (0, .ref (ad 34)), (1, .int x1)]) hx hb dX3_findLevel_22 hl (k := 2) rfl rfl (by decide) rfl (fun ls hl => ?_)
      refine lv_goto (tgt := 2) hx hb dX3_findLevel_25 (by decide) ?_
      exact kc _ (Option.some.inj h).symm hM hS (lv_sub hl [1, 2, 0] rfl)
    · replace h := gif_t c3 h
      refine lv_iload_n hx hb dX3_findLevel_20 rfl (lv_at hl 2 rfl) ?_
      obtain rfl := kr _ (Option.some.inj h).symm
      exact g_iret hx hb hr hlocks hM hS dX3_findLevel_21
set_option maxHeartbeats 4000000 in
theorem wl_X3_findLevel_2 {p : Program} {l : Launch} {e : Env} {s : State} {m : MethodId} {args : Array Value} {below : List Frame} {meth : Method} {c : Code} {D : va_G} {cy : Nat → ClassId} {ad : Nat → Nat} {base : gBs} {x1 : Int32} {μ : gM} {r : (Unit) ⊕ (Int32)} {RES : Int32} (F : gF p s m meth c cX3_findLevel RX3 3 (some .int)) (E : gEnv l D cy ad base s) (kx : ∀ (t : Unit) {H : Heap} {locs : List Loc} {ls : Array Slot}, r = .inl t → gW gFull D cy ad base μ H → va_S (gA base) s.heap H locs → lv_has ls 3 [] → W p l e ({ frames := 0, cells := 0, slots := 0, locals := 0 } : Room) s m args below meth c H locs 0 0 (MQ below (gQ (some (.int RES)) gFull D cy ad base μ) args s 0 0 (gA base)) (F0 m 28 ls [])) (kr : ∀ x : Int32, r = .inr x → x = RES) : ∀ (n : Nat) (x2 : Int32), gloop (fun t => b_X3_findLevel_2 x1 t μ) n x2 = some r → ∀ {H : Heap} {locs : List Loc} {ls : Array Slot}, gW gFull D cy ad base μ H → va_S (gA base) s.heap H locs → lv_has ls 3 [(0, .ref (ad 34)), (1, .int x1), (2, .int x2)] → W p l e ({ frames := 0, cells := 0, slots := 0, locals := 0 } : Room) s m args below meth c H locs 0 0 (MQ below (gQ (some (.int RES)) gFull D cy ad base μ) args s 0 0 (gA base)) (F0 m 2 ls []) := by
  intro n
  induction n with
  | zero =>
    intro x2 h
    exact (gloop_0 h).elim
  | succ n ih =>
    intro x2 h H locs ls hM hS hl
    obtain ⟨o, h0, hc, hq⟩ := gloop_s h
    have h1 : b_X3_findLevel_2 x1 x2 μ = some o := h0
    exact wb_X3_findLevel_2 h1 F E (fun t H locs ls ho hM hS hl => ih t (hc t ho) hM hS hl) (fun t H locs ls ho hM hS hl => kx t (hq _ ho).symm hM hS hl) (fun x ho => kr x (hq _ ho).symm) hM hS hl
def f_X3_findLevel (p1 : Int32) (μ : gM) : Option (Int32) :=
  Option.bind (gloop (fun t => b_X3_findLevel_2 p1 t μ) gFuel (0 : Int32)) (fun q4 => Sum.elim (fun t5 => some (-1 : Int32)) (fun x => some x) q4)
set_option maxHeartbeats 4000000 in
set_option maxRecDepth 100000 in
theorem c_X3_findLevel {l : Launch} {D : va_G} {cy : Nat → ClassId} {ad : Nat → Nat} {base : gBs} {p1 : Int32} {μ : gM} {RES : Int32} (h : f_X3_findLevel p1 μ = some RES) : Met l yX3_findLevel [.code yX3_findLevel cX3_findLevel 3 (some .int)] ({ frames := 0, cells := 0, slots := 0, locals := 0 } : Room) (va_Pc [.ref (ad 34), .int p1] (gB l gFull D cy ad base μ)) (gQ (some (.int RES)) gFull D cy ad base μ) 0 0 (gA base) := by
  refine Met.ofW (cc := cX3_findLevel) (maxL := 3) (ret := (some .int)) (by decide) rfl ?_
  intro p e s m args below meth c s₁ B hml0 hv
  obtain ⟨rfl, E, hM⟩ := hv
  have F : gF p s m meth c cX3_findLevel RX3 3 (some .int) := gF_of B hml0
  obtain ⟨hx, hb, hml, hown, hlocks, hr⟩ := id F
  have hS : va_S (gA base) s.heap s.heap [] := va_S.rf
  have hl := lv_entry ([.ref (ad 34), .int p1]) (n := 3) (Nat.le_of_ble_eq_true rfl)
  rw [lg_entry_eq]
  generalize (lg_sl ([.ref (ad 34), .int p1]) ++ List.replicate (3 - (lg_sl ([.ref (ad 34), .int p1])).length) Slot.unset).toArray = ls at hl ⊢
  have hl : lv_has ls 3 [(0, .ref (ad 34)), (1, .int p1)] := hl
  unfold f_X3_findLevel at h
  refine lv_iconst (v := (0 : Int32)) hx hb dX3_findLevel_0 (by decide) ?_
  refine lv_istore_n (lv' := [(2, .int (0 : Int32)), (0, .ref (ad 34)), (1, .int p1)]) hx hb dX3_findLevel_1 rfl hl (by decide) rfl (fun ls hl => ?_)
  obtain ⟨q4, h1, h⟩ := gbind_e h
  refine wl_X3_findLevel_2 F E (r := q4) (fun t5 H locs ls e1 hM hS hl => ?_) (fun x ex => ?_) gFuel (0 : Int32) h1 hM hS (lv_sub hl [1, 2, 0] rfl)
  · replace h := gsum_l e1 h
    refine lv_iconst (v := (-1 : Int32)) hx hb dX3_findLevel_28 (by decide) ?_
    obtain rfl := Option.some.inj h
    exact g_iret hx hb hr hlocks hM hS dX3_findLevel_29
  · exact Option.some.inj (gsum_r ex h)
def b_X3_findPoint_2 (x1 : Int32) (x2 : Int32) (μ : gM) : Option ((Int32) ⊕ ((Unit) ⊕ (Int32))) :=
  if ((gi μ 34 1) ≤ x2) then some (.inr (.inl ())) else gchk (gIn x2 16) (if ((gi μ 38 x2.toNatClampNeg) = x1) then some (.inr (.inr x2)) else some (.inl (x2 + (1 : Int32))))
set_option maxHeartbeats 4000000 in
set_option maxRecDepth 100000 in
theorem wb_X3_findPoint_2 {p : Program} {l : Launch} {e : Env} {s : State} {m : MethodId} {args : Array Value} {below : List Frame} {meth : Method} {c : Code} {D : va_G} {cy : Nat → ClassId} {ad : Nat → Nat} {base : gBs} {x1 : Int32} {x2 : Int32} {μ : gM} {o : (Int32) ⊕ ((Unit) ⊕ (Int32))} {RES : Int32} (h : b_X3_findPoint_2 x1 x2 μ = some o) (F : gF p s m meth c cX3_findPoint RX3 3 (some .int)) (E : gEnv l D cy ad base s) (kc : ∀ (t : Int32) {H : Heap} {locs : List Loc} {ls : Array Slot}, o = .inl t → gW gFull D cy ad base μ H → va_S (gA base) s.heap H locs → lv_has ls 3 [(0, .ref (ad 34)), (1, .int x1), (2, .int t)] → W p l e ({ frames := 0, cells := 0, slots := 0, locals := 0 } : Room) s m args below meth c H locs 0 0 (MQ below (gQ (some (.int RES)) gFull D cy ad base μ) args s 0 0 (gA base)) (F0 m 2 ls [])) (kx : ∀ (t : Unit) {H : Heap} {locs : List Loc} {ls : Array Slot}, o = .inr (.inl t) → gW gFull D cy ad base μ H → va_S (gA base) s.heap H locs → lv_has ls 3 [] → W p l e ({ frames := 0, cells := 0, slots := 0, locals := 0 } : Room) s m args below meth c H locs 0 0 (MQ below (gQ (some (.int RES)) gFull D cy ad base μ) args s 0 0 (gA base)) (F0 m 28 ls [])) (kr : ∀ x : Int32, o = .inr (.inr x) → x = RES) {H : Heap} {locs : List Loc} {ls : Array Slot} (hM : gW gFull D cy ad base μ H) (hS : va_S (gA base) s.heap H locs) (hl : lv_has ls 3 [(0, .ref (ad 34)), (1, .int x1), (2, .int x2)]) : W p l e ({ frames := 0, cells := 0, slots := 0, locals := 0 } : Room) s m args below meth c H locs 0 0 (MQ below (gQ (some (.int RES)) gFull D cy ad base μ) args s 0 0 (gA base)) (F0 m 2 ls []) := by
  obtain ⟨hx, hb, hml, hown, hlocks, hr⟩ := id F
  unfold b_X3_findPoint_2 at h
  refine lv_iload_n hx hb dX3_findPoint_2 rfl (lv_at hl 2 rfl) ?_
  refine lv_aload_n hx hb dX3_findPoint_3 rfl (lv_at hl 0 rfl) ?_
  refine gg_34_1 hx hb hown E hM hk_34 kw_394 dX3_findPoint_4 ?_
  refine lv_icmp_ge (tgt := 28) hx hb dX3_findPoint_7 (by decide) (fun c1 => ?_) (fun c1 => ?_)
  · replace h := gif_t c1 h
    exact kx _ (Option.some.inj h).symm hM hS (lv_sub hl [] rfl)
  · replace h := gif_f c1 h
    refine lv_aload_n hx hb dX3_findPoint_10 rfl (lv_at hl 0 rfl) ?_
    refine gg_34_8 hx hb hown E hM hk_34 kw_420 dX3_findPoint_11 ?_
    refine lv_iload_n hx hb dX3_findPoint_14 rfl (lv_at hl 2 rfl) ?_
    obtain ⟨c2, h⟩ := gchk_e h
    refine g_iald hx hb E hM hk_38 dd_38 c2 dX3_findPoint_15 ?_
    refine lv_iload_n hx hb dX3_findPoint_16 rfl (lv_at hl 1 rfl) ?_
    refine lv_icmp_ne (tgt := 22) hx hb dX3_findPoint_17 (by decide) (fun c3 => ?_) (fun c3 => ?_)
    · replace h := gif_f c3 h
      refine lv_iinc (v := (x2 + (1 : Int32))) (lv' := [(2, .int (x2 + (1 : Int32))), (0, .ref (ad 34)), (1, .int x1)]) hx hb dX3_findPoint_22 hl (k := 2) rfl rfl (by decide) rfl (fun ls hl => ?_)
      refine lv_goto (tgt := 2) hx hb dX3_findPoint_25 (by decide) ?_
      exact kc _ (Option.some.inj h).symm hM hS (lv_sub hl [1, 2, 0] rfl)
    · replace h := gif_t c3 h
      refine lv_iload_n hx hb dX3_findPoint_20 rfl (lv_at hl 2 rfl) ?_
      obtain rfl := kr _ (Option.some.inj h).symm
      exact g_iret hx hb hr hlocks hM hS dX3_findPoint_21
set_option maxHeartbeats 4000000 in
theorem wl_X3_findPoint_2 {p : Program} {l : Launch} {e : Env} {s : State} {m : MethodId} {args : Array Value} {below : List Frame} {meth : Method} {c : Code} {D : va_G} {cy : Nat → ClassId} {ad : Nat → Nat} {base : gBs} {x1 : Int32} {μ : gM} {r : (Unit) ⊕ (Int32)} {RES : Int32} (F : gF p s m meth c cX3_findPoint RX3 3 (some .int)) (E : gEnv l D cy ad base s) (kx : ∀ (t : Unit) {H : Heap} {locs : List Loc} {ls : Array Slot}, r = .inl t → gW gFull D cy ad base μ H → va_S (gA base) s.heap H locs → lv_has ls 3 [] → W p l e ({ frames := 0, cells := 0, slots := 0, locals := 0 } : Room) s m args below meth c H locs 0 0 (MQ below (gQ (some (.int RES)) gFull D cy ad base μ) args s 0 0 (gA base)) (F0 m 28 ls [])) (kr : ∀ x : Int32, r = .inr x → x = RES) : ∀ (n : Nat) (x2 : Int32), gloop (fun t => b_X3_findPoint_2 x1 t μ) n x2 = some r → ∀ {H : Heap} {locs : List Loc} {ls : Array Slot}, gW gFull D cy ad base μ H → va_S (gA base) s.heap H locs → lv_has ls 3 [(0, .ref (ad 34)), (1, .int x1), (2, .int x2)] → W p l e ({ frames := 0, cells := 0, slots := 0, locals := 0 } : Room) s m args below meth c H locs 0 0 (MQ below (gQ (some (.int RES)) gFull D cy ad base μ) args s 0 0 (gA base)) (F0 m 2 ls []) := by
  intro n
  induction n with
  | zero =>
    intro x2 h
    exact (gloop_0 h).elim
  | succ n ih =>
    intro x2 h H locs ls hM hS hl
    obtain ⟨o, h0, hc, hq⟩ := gloop_s h
    have h1 : b_X3_findPoint_2 x1 x2 μ = some o := h0
    exact wb_X3_findPoint_2 h1 F E (fun t H locs ls ho hM hS hl => ih t (hc t ho) hM hS hl) (fun t H locs ls ho hM hS hl => kx t (hq _ ho).symm hM hS hl) (fun x ho => kr x (hq _ ho).symm) hM hS hl
def f_X3_findPoint (p1 : Int32) (μ : gM) : Option (Int32) :=
  Option.bind (gloop (fun t => b_X3_findPoint_2 p1 t μ) gFuel (0 : Int32)) (fun q4 => Sum.elim (fun t5 => some (-1 : Int32)) (fun x => some x) q4)
set_option maxHeartbeats 4000000 in
set_option maxRecDepth 100000 in
theorem c_X3_findPoint {l : Launch} {D : va_G} {cy : Nat → ClassId} {ad : Nat → Nat} {base : gBs} {p1 : Int32} {μ : gM} {RES : Int32} (h : f_X3_findPoint p1 μ = some RES) : Met l yX3_findPoint [.code yX3_findPoint cX3_findPoint 3 (some .int)] ({ frames := 0, cells := 0, slots := 0, locals := 0 } : Room) (va_Pc [.ref (ad 34), .int p1] (gB l gFull D cy ad base μ)) (gQ (some (.int RES)) gFull D cy ad base μ) 0 0 (gA base) := by
  refine Met.ofW (cc := cX3_findPoint) (maxL := 3) (ret := (some .int)) (by decide) rfl ?_
  intro p e s m args below meth c s₁ B hml0 hv
  obtain ⟨rfl, E, hM⟩ := hv
  have F : gF p s m meth c cX3_findPoint RX3 3 (some .int) := gF_of B hml0
  obtain ⟨hx, hb, hml, hown, hlocks, hr⟩ := id F
  have hS : va_S (gA base) s.heap s.heap [] := va_S.rf
  have hl := lv_entry ([.ref (ad 34), .int p1]) (n := 3) (Nat.le_of_ble_eq_true rfl)
  rw [lg_entry_eq]
  generalize (lg_sl ([.ref (ad 34), .int p1]) ++ List.replicate (3 - (lg_sl ([.ref (ad 34), .int p1])).length) Slot.unset).toArray = ls at hl ⊢
  have hl : lv_has ls 3 [(0, .ref (ad 34)), (1, .int p1)] := hl
  unfold f_X3_findPoint at h
  refine lv_iconst (v := (0 : Int32)) hx hb dX3_findPoint_0 (by decide) ?_
  refine lv_istore_n (lv' := [(2, .int (0 : Int32)), (0, .ref (ad 34)), (1, .int p1)]) hx hb dX3_findPoint_1 rfl hl (by decide) rfl (fun ls hl => ?_)
  obtain ⟨q4, h1, h⟩ := gbind_e h
  refine wl_X3_findPoint_2 F E (r := q4) (fun t5 H locs ls e1 hM hS hl => ?_) (fun x ex => ?_) gFuel (0 : Int32) h1 hM hS (lv_sub hl [1, 2, 0] rfl)
  · replace h := gsum_l e1 h
    refine lv_iconst (v := (-1 : Int32)) hx hb dX3_findPoint_28 (by decide) ?_
    obtain rfl := Option.some.inj h
    exact g_iret hx hb hr hlocks hM hS dX3_findPoint_29
  · exact Option.some.inj (gsum_r ex h)
def b_X3_countHeld_4 (x1 : Int32) (x2 : Int32) (μ : gM) : Option ((Int32 × Int32) ⊕ (Int32)) :=
  if ((gi μ 34 1) ≤ x2) then some (.inr x1) else gchk (gIn x2 16) (if ((gi μ 39 x2.toNatClampNeg) = (-1 : Int32)) then some (.inl (x1, (x2 + (1 : Int32)))) else some (.inl ((x1 + (1 : Int32)), (x2 + (1 : Int32)))))
set_option maxHeartbeats 4000000 in
set_option maxRecDepth 100000 in
theorem wb_X3_countHeld_4 {p : Program} {l : Launch} {e : Env} {s : State} {m : MethodId} {args : Array Value} {below : List Frame} {meth : Method} {c : Code} {D : va_G} {cy : Nat → ClassId} {ad : Nat → Nat} {base : gBs} {x1 : Int32} {x2 : Int32} {μ : gM} {o : (Int32 × Int32) ⊕ (Int32)} {RES : Int32} (h : b_X3_countHeld_4 x1 x2 μ = some o) (F : gF p s m meth c cX3_countHeld RX3 3 (some .int)) (E : gEnv l D cy ad base s) (kc : ∀ (t : Int32 × Int32) {H : Heap} {locs : List Loc} {ls : Array Slot}, o = .inl t → gW gFull D cy ad base μ H → va_S (gA base) s.heap H locs → lv_has ls 3 [(0, .ref (ad 34)), (1, .int t.1), (2, .int t.2)] → W p l e ({ frames := 0, cells := 0, slots := 0, locals := 0 } : Room) s m args below meth c H locs 0 0 (MQ below (gQ (some (.int RES)) gFull D cy ad base μ) args s 0 0 (gA base)) (F0 m 4 ls [])) (kx : ∀ (t : Int32) {H : Heap} {locs : List Loc} {ls : Array Slot}, o = .inr t → gW gFull D cy ad base μ H → va_S (gA base) s.heap H locs → lv_has ls 3 [(1, .int t)] → W p l e ({ frames := 0, cells := 0, slots := 0, locals := 0 } : Room) s m args below meth c H locs 0 0 (MQ below (gQ (some (.int RES)) gFull D cy ad base μ) args s 0 0 (gA base)) (F0 m 31 ls []))  {H : Heap} {locs : List Loc} {ls : Array Slot} (hM : gW gFull D cy ad base μ H) (hS : va_S (gA base) s.heap H locs) (hl : lv_has ls 3 [(0, .ref (ad 34)), (1, .int x1), (2, .int x2)]) : W p l e ({ frames := 0, cells := 0, slots := 0, locals := 0 } : Room) s m args below meth c H locs 0 0 (MQ below (gQ (some (.int RES)) gFull D cy ad base μ) args s 0 0 (gA base)) (F0 m 4 ls []) := by
  obtain ⟨hx, hb, hml, hown, hlocks, hr⟩ := id F
  unfold b_X3_countHeld_4 at h
  refine lv_iload_n hx hb dX3_countHeld_4 rfl (lv_at hl 2 rfl) ?_
  refine lv_aload_n hx hb dX3_countHeld_5 rfl (lv_at hl 0 rfl) ?_
  refine gg_34_1 hx hb hown E hM hk_34 kw_394 dX3_countHeld_6 ?_
  refine lv_icmp_ge (tgt := 31) hx hb dX3_countHeld_9 (by decide) (fun c1 => ?_) (fun c1 => ?_)
  · replace h := gif_t c1 h
    exact kx _ (Option.some.inj h).symm hM hS (lv_sub hl [1] rfl)
  · replace h := gif_f c1 h
    refine lv_aload_n hx hb dX3_countHeld_12 rfl (lv_at hl 0 rfl) ?_
    refine gg_34_9 hx hb hown E hM hk_34 kw_422 dX3_countHeld_13 ?_
    refine lv_iload_n hx hb dX3_countHeld_16 rfl (lv_at hl 2 rfl) ?_
    obtain ⟨c2, h⟩ := gchk_e h
    refine g_iald hx hb E hM hk_39 dd_39 c2 dX3_countHeld_17 ?_
    refine lv_iconst (v := (-1 : Int32)) hx hb dX3_countHeld_18 (by decide) ?_
    refine lv_icmp_eq (tgt := 25) hx hb dX3_countHeld_19 (by decide) (fun c3 => ?_) (fun c3 => ?_)
    · replace h := gif_t c3 h
      refine lv_iinc (v := (x2 + (1 : Int32))) (lv' := [(2, .int (x2 + (1 : Int32))), (0, .ref (ad 34)), (1, .int x1)]) hx hb dX3_countHeld_25 hl (k := 2) rfl rfl (by decide) rfl (fun ls hl => ?_)
      refine lv_goto (tgt := 4) hx hb dX3_countHeld_28 (by decide) ?_
      exact kc _ (Option.some.inj h).symm hM hS (lv_sub hl [1, 2, 0] rfl)
    · replace h := gif_f c3 h
      refine lv_iinc (v := (x1 + (1 : Int32))) (lv' := [(1, .int (x1 + (1 : Int32))), (0, .ref (ad 34)), (2, .int x2)]) hx hb dX3_countHeld_22 hl (k := 1) rfl rfl (by decide) rfl (fun ls hl => ?_)
      refine lv_iinc (v := (x2 + (1 : Int32))) (lv' := [(2, .int (x2 + (1 : Int32))), (1, .int (x1 + (1 : Int32))), (0, .ref (ad 34))]) hx hb dX3_countHeld_25 hl (k := 2) rfl rfl (by decide) rfl (fun ls hl => ?_)
      refine lv_goto (tgt := 4) hx hb dX3_countHeld_28 (by decide) ?_
      exact kc _ (Option.some.inj h).symm hM hS (lv_sub hl [2, 1, 0] rfl)
set_option maxHeartbeats 4000000 in
theorem wl_X3_countHeld_4 {p : Program} {l : Launch} {e : Env} {s : State} {m : MethodId} {args : Array Value} {below : List Frame} {meth : Method} {c : Code} {D : va_G} {cy : Nat → ClassId} {ad : Nat → Nat} {base : gBs}  {μ : gM} {r : Int32} {RES : Int32} (F : gF p s m meth c cX3_countHeld RX3 3 (some .int)) (E : gEnv l D cy ad base s) (kx : ∀ (t : Int32) {H : Heap} {locs : List Loc} {ls : Array Slot}, r = t → gW gFull D cy ad base μ H → va_S (gA base) s.heap H locs → lv_has ls 3 [(1, .int t)] → W p l e ({ frames := 0, cells := 0, slots := 0, locals := 0 } : Room) s m args below meth c H locs 0 0 (MQ below (gQ (some (.int RES)) gFull D cy ad base μ) args s 0 0 (gA base)) (F0 m 31 ls []))  : ∀ (n : Nat) (x1 : Int32) (x2 : Int32), gloop (fun t => b_X3_countHeld_4  t.1 t.2 μ) n (x1, x2) = some r → ∀ {H : Heap} {locs : List Loc} {ls : Array Slot}, gW gFull D cy ad base μ H → va_S (gA base) s.heap H locs → lv_has ls 3 [(0, .ref (ad 34)), (1, .int x1), (2, .int x2)] → W p l e ({ frames := 0, cells := 0, slots := 0, locals := 0 } : Room) s m args below meth c H locs 0 0 (MQ below (gQ (some (.int RES)) gFull D cy ad base μ) args s 0 0 (gA base)) (F0 m 4 ls []) := by
  intro n
  induction n with
  | zero =>
    intro x1 x2 h
    exact (gloop_0 h).elim
  | succ n ih =>
    intro x1 x2 h H locs ls hM hS hl
    obtain ⟨o, h0, hc, hq⟩ := gloop_s h
    have h1 : b_X3_countHeld_4 x1 x2 μ = some o := h0
    exact wb_X3_countHeld_4 h1 F E (fun t H locs ls ho hM hS hl => ih t.1 t.2 (hc t ho) hM hS hl) (fun t H locs ls ho hM hS hl => kx t (hq _ ho).symm hM hS hl) hM hS hl
def f_X3_countHeld (μ : gM) : Option (Int32) :=
  Option.bind (gloop (fun t => b_X3_countHeld_4  t.1 t.2 μ) gFuel ((0 : Int32), (0 : Int32))) (fun q4 => some q4)
set_option maxHeartbeats 4000000 in
set_option maxRecDepth 100000 in
theorem c_X3_countHeld {l : Launch} {D : va_G} {cy : Nat → ClassId} {ad : Nat → Nat} {base : gBs}  {μ : gM} {RES : Int32} (h : f_X3_countHeld  μ = some RES) : Met l yX3_countHeld [.code yX3_countHeld cX3_countHeld 3 (some .int)] ({ frames := 0, cells := 0, slots := 0, locals := 0 } : Room) (va_Pc [.ref (ad 34)] (gB l gFull D cy ad base μ)) (gQ (some (.int RES)) gFull D cy ad base μ) 0 0 (gA base) := by
  refine Met.ofW (cc := cX3_countHeld) (maxL := 3) (ret := (some .int)) (by decide) rfl ?_
  intro p e s m args below meth c s₁ B hml0 hv
  obtain ⟨rfl, E, hM⟩ := hv
  have F : gF p s m meth c cX3_countHeld RX3 3 (some .int) := gF_of B hml0
  obtain ⟨hx, hb, hml, hown, hlocks, hr⟩ := id F
  have hS : va_S (gA base) s.heap s.heap [] := va_S.rf
  have hl := lv_entry ([.ref (ad 34)]) (n := 3) (Nat.le_of_ble_eq_true rfl)
  rw [lg_entry_eq]
  generalize (lg_sl ([.ref (ad 34)]) ++ List.replicate (3 - (lg_sl ([.ref (ad 34)])).length) Slot.unset).toArray = ls at hl ⊢
  have hl : lv_has ls 3 [(0, .ref (ad 34))] := hl
  unfold f_X3_countHeld at h
  refine lv_iconst (v := (0 : Int32)) hx hb dX3_countHeld_0 (by decide) ?_
  refine lv_istore_n (lv' := [(1, .int (0 : Int32)), (0, .ref (ad 34))]) hx hb dX3_countHeld_1 rfl hl (by decide) rfl (fun ls hl => ?_)
  refine lv_iconst (v := (0 : Int32)) hx hb dX3_countHeld_2 (by decide) ?_
  refine lv_istore_n (lv' := [(2, .int (0 : Int32)), (1, .int (0 : Int32)), (0, .ref (ad 34))]) hx hb dX3_countHeld_3 rfl hl (by decide) rfl (fun ls hl => ?_)
  obtain ⟨z5, h1, h⟩ := gbind_e h
  refine wl_X3_countHeld_4 F E (r := z5) (fun q4 H locs ls e1 hM hS hl => ?_) gFuel (0 : Int32) (0 : Int32) h1 hM hS (lv_sub hl [2, 1, 0] rfl)
  replace e1 : z5 = q4 := e1
  rw [e1] at h
  refine lv_iload_n hx hb dX3_countHeld_31 rfl (lv_at hl 0 rfl) ?_
  obtain rfl := Option.some.inj h
  exact g_iret hx hb hr hlocks hM hS dX3_countHeld_32
def f_X3_isActive (p1 : Int32) (μ : gM) : Option (Bool) :=
  if ((((gi μ 34 4) >>> (p1 &&& 31)) &&& (1 : Int32)) = (1 : Int32)) then some true else some false
set_option maxHeartbeats 4000000 in
set_option maxRecDepth 100000 in
theorem c_X3_isActive {l : Launch} {D : va_G} {cy : Nat → ClassId} {ad : Nat → Nat} {base : gBs} {p1 : Int32} {μ : gM} {RES : Bool} (h : f_X3_isActive p1 μ = some RES) : Met l yX3_isActive [.code yX3_isActive cX3_isActive 2 (some .boolean)] ({ frames := 0, cells := 0, slots := 0, locals := 0 } : Room) (va_Pc [.ref (ad 34), .int p1] (gB l gFull D cy ad base μ)) (gQ (some (.int (b2i RES))) gFull D cy ad base μ) 0 0 (gA base) := by
  refine Met.ofW (cc := cX3_isActive) (maxL := 2) (ret := (some .boolean)) (by decide) rfl ?_
  intro p e s m args below meth c s₁ B hml0 hv
  obtain ⟨rfl, E, hM⟩ := hv
  have F : gF p s m meth c cX3_isActive RX3 2 (some .boolean) := gF_of B hml0
  obtain ⟨hx, hb, hml, hown, hlocks, hr⟩ := id F
  have hS : va_S (gA base) s.heap s.heap [] := va_S.rf
  have hl := lv_entry ([.ref (ad 34), .int p1]) (n := 2) (Nat.le_of_ble_eq_true rfl)
  rw [lg_entry_eq]
  generalize (lg_sl ([.ref (ad 34), .int p1]) ++ List.replicate (2 - (lg_sl ([.ref (ad 34), .int p1])).length) Slot.unset).toArray = ls at hl ⊢
  have hl : lv_has ls 2 [(0, .ref (ad 34)), (1, .int p1)] := hl
  unfold f_X3_isActive at h
  refine lv_aload_n hx hb dX3_isActive_0 rfl (lv_at hl 0 rfl) ?_
  refine gg_34_4 hx hb hown E hM hk_34 kw_407 dX3_isActive_1 ?_
  refine lv_iload_n hx hb dX3_isActive_4 rfl (lv_at hl 1 rfl) ?_
  refine lv_ishr hx hb dX3_isActive_5 ?_
  refine lv_iconst (v := (1 : Int32)) hx hb dX3_isActive_6 (by decide) ?_
  refine lv_iand hx hb dX3_isActive_7 ?_
  refine lv_iconst (v := (1 : Int32)) hx hb dX3_isActive_8 (by decide) ?_
  refine lv_icmp_ne (tgt := 16) hx hb dX3_isActive_9 (by decide) (fun c1 => ?_) (fun c1 => ?_)
  · replace h := gif_f c1 h
    refine lv_iconst (v := (0 : Int32)) hx hb dX3_isActive_16 (by decide) ?_
    obtain rfl := Option.some.inj h
    exact g_zret (v := b2i false) hx hb hr hlocks (b2i_nar false) hM hS dX3_isActive_17
  · replace h := gif_t c1 h
    refine lv_iconst (v := (1 : Int32)) hx hb dX3_isActive_12 (by decide) ?_
    refine lv_goto (tgt := 17) hx hb dX3_isActive_13 (by decide) ?_
    obtain rfl := Option.some.inj h
    exact g_zret (v := b2i true) hx hb hr hlocks (b2i_nar true) hM hS dX3_isActive_17
def f_X7_isIndex (p1 : Int32) (p2 : Int32) (μ : gM) : Option (Bool) :=
  if (p1 < 0) then some false else if (p2 ≤ p1) then some false else some true
set_option maxHeartbeats 4000000 in
set_option maxRecDepth 100000 in
theorem c_X7_isIndex {l : Launch} {D : va_G} {cy : Nat → ClassId} {ad : Nat → Nat} {base : gBs} {p1 : Int32} {p2 : Int32} {μ : gM} {RES : Bool} (h : f_X7_isIndex p1 p2 μ = some RES) : Met l yX7_isIndex [.code yX7_isIndex cX7_isIndex 2 (some .boolean)] ({ frames := 0, cells := 0, slots := 0, locals := 0 } : Room) (va_Pc [.int p1, .int p2] (gB l gFull D cy ad base μ)) (gQ (some (.int (b2i RES))) gFull D cy ad base μ) 0 0 (gA base) := by
  refine Met.ofW (cc := cX7_isIndex) (maxL := 2) (ret := (some .boolean)) (by decide) rfl ?_
  intro p e s m args below meth c s₁ B hml0 hv
  obtain ⟨rfl, E, hM⟩ := hv
  have F : gF p s m meth c cX7_isIndex RX7 2 (some .boolean) := gF_of B hml0
  obtain ⟨hx, hb, hml, hown, hlocks, hr⟩ := id F
  have hS : va_S (gA base) s.heap s.heap [] := va_S.rf
  have hl := lv_entry ([.int p1, .int p2]) (n := 2) (Nat.le_of_ble_eq_true rfl)
  rw [lg_entry_eq]
  generalize (lg_sl ([.int p1, .int p2]) ++ List.replicate (2 - (lg_sl ([.int p1, .int p2])).length) Slot.unset).toArray = ls at hl ⊢
  have hl : lv_has ls 2 [(0, .int p1), (1, .int p2)] := hl
  unfold f_X7_isIndex at h
  refine lv_iload_n hx hb dX7_isIndex_0 rfl (lv_at hl 0 rfl) ?_
  refine lv_if_lt (tgt := 13) hx hb dX7_isIndex_1 (by decide) (fun c1 => ?_) (fun c1 => ?_)
  · replace h := gif_t c1 h
    refine lv_iconst (v := (0 : Int32)) hx hb dX7_isIndex_13 (by decide) ?_
    obtain rfl := Option.some.inj h
    exact g_zret (v := b2i false) hx hb hr hlocks (b2i_nar false) hM hS dX7_isIndex_14
  · replace h := gif_f c1 h
    refine lv_iload_n hx hb dX7_isIndex_4 rfl (lv_at hl 0 rfl) ?_
    refine lv_iload_n hx hb dX7_isIndex_5 rfl (lv_at hl 1 rfl) ?_
    refine lv_icmp_ge (tgt := 13) hx hb dX7_isIndex_6 (by decide) (fun c2 => ?_) (fun c2 => ?_)
    · replace h := gif_t c2 h
      refine lv_iconst (v := (0 : Int32)) hx hb dX7_isIndex_13 (by decide) ?_
      obtain rfl := Option.some.inj h
      exact g_zret (v := b2i false) hx hb hr hlocks (b2i_nar false) hM hS dX7_isIndex_14
    · replace h := gif_f c2 h
      refine lv_iconst (v := (1 : Int32)) hx hb dX7_isIndex_9 (by decide) ?_
      refine lv_goto (tgt := 14) hx hb dX7_isIndex_10 (by decide) ?_
      obtain rfl := Option.some.inj h
      exact g_zret (v := b2i true) hx hb hr hlocks (b2i_nar true) hM hS dX7_isIndex_14
def f_X3_hasSetup (p1 : Int32) (p2 : Int32) (μ : gM) : Option (Bool) :=
  gchk (gIn p1 20) (Option.bind (f_X7_isIndex p2 (gi μ 43 p1.toNatClampNeg) μ) (fun q2 => some q2))
set_option maxHeartbeats 4000000 in
set_option maxRecDepth 100000 in
theorem c_X3_hasSetup {l : Launch} {D : va_G} {cy : Nat → ClassId} {ad : Nat → Nat} {base : gBs} {p1 : Int32} {p2 : Int32} {μ : gM} {RES : Bool} (h : f_X3_hasSetup p1 p2 μ = some RES) : Met l yX3_hasSetup [.code yX3_hasSetup cX3_hasSetup 3 (some .boolean)] ({ frames := 1, cells := 0, slots := 0, locals := 21 } : Room) (va_Pc [.ref (ad 34), .int p1, .int p2] (gB l gFull D cy ad base μ)) (gQ (some (.int (b2i RES))) gFull D cy ad base μ) 0 0 (gA base) := by
  refine Met.ofW (cc := cX3_hasSetup) (maxL := 3) (ret := (some .boolean)) (by decide) rfl ?_
  intro p e s m args below meth c s₁ B hml0 hv
  obtain ⟨rfl, E, hM⟩ := hv
  have F : gF p s m meth c cX3_hasSetup RX3 3 (some .boolean) := gF_of B hml0
  obtain ⟨hx, hb, hml, hown, hlocks, hr⟩ := id F
  have hS : va_S (gA base) s.heap s.heap [] := va_S.rf
  have hl := lv_entry ([.ref (ad 34), .int p1, .int p2]) (n := 3) (Nat.le_of_ble_eq_true rfl)
  rw [lg_entry_eq]
  generalize (lg_sl ([.ref (ad 34), .int p1, .int p2]) ++ List.replicate (3 - (lg_sl ([.ref (ad 34), .int p1, .int p2])).length) Slot.unset).toArray = ls at hl ⊢
  have hl : lv_has ls 3 [(0, .ref (ad 34)), (1, .int p1), (2, .int p2)] := hl
  unfold f_X3_hasSetup at h
  refine lv_iload_n hx hb dX3_hasSetup_0 rfl (lv_at hl 2 rfl) ?_
  refine lv_aload_n hx hb dX3_hasSetup_1 rfl (lv_at hl 0 rfl) ?_
  refine gg_34_13 hx hb hown E hM hk_34 kw_441 dX3_hasSetup_2 ?_
  refine lv_iload_n hx hb dX3_hasSetup_5 rfl (lv_at hl 1 rfl) ?_
  obtain ⟨c1, h⟩ := gchk_e h
  refine g_iald hx hb E hM hk_43 dd_43 c1 dX3_hasSetup_6 ?_
  obtain ⟨q2, hq2, h⟩ := gbind_e h
  refine g_callSN (As := [.int p2, .int (gi μ 43 p1.toNatClampNeg)]) (rest := []) hx hb (hml.trans hl.1.symm) hown E hM hS hy_X7_isIndex E.2.2.2.1 (c_X7_isIndex hq2) rfl rfl (Nat.le_of_ble_eq_true rfl) ⟨Nat.le_of_ble_eq_true rfl, Nat.le_of_ble_eq_true rfl⟩ ⟨Nat.le_of_ble_eq_true rfl, Nat.le_of_ble_eq_true rfl⟩ dX3_hasSetup_7 (fun H locs hM hS => ?_)
  obtain rfl := Option.some.inj h
  exact g_zret hx hb hr hlocks (b2i_nar _) hM hS dX3_hasSetup_10
def f_X3_place (p1 : Int32) (p2 : Int32) (μ : gM) : Option (Int32) :=
  some (((p1 * (8 : Int32)) + p2) * (4 : Int32))
set_option maxHeartbeats 4000000 in
set_option maxRecDepth 100000 in
theorem c_X3_place {l : Launch} {D : va_G} {cy : Nat → ClassId} {ad : Nat → Nat} {base : gBs} {p1 : Int32} {p2 : Int32} {μ : gM} {RES : Int32} (h : f_X3_place p1 p2 μ = some RES) : Met l yX3_place [.code yX3_place cX3_place 3 (some .int)] ({ frames := 0, cells := 0, slots := 0, locals := 0 } : Room) (va_Pc [.ref (ad 34), .int p1, .int p2] (gB l gFull D cy ad base μ)) (gQ (some (.int RES)) gFull D cy ad base μ) 0 0 (gA base) := by
  refine Met.ofW (cc := cX3_place) (maxL := 3) (ret := (some .int)) (by decide) rfl ?_
  intro p e s m args below meth c s₁ B hml0 hv
  obtain ⟨rfl, E, hM⟩ := hv
  have F : gF p s m meth c cX3_place RX3 3 (some .int) := gF_of B hml0
  obtain ⟨hx, hb, hml, hown, hlocks, hr⟩ := id F
  have hS : va_S (gA base) s.heap s.heap [] := va_S.rf
  have hl := lv_entry ([.ref (ad 34), .int p1, .int p2]) (n := 3) (Nat.le_of_ble_eq_true rfl)
  rw [lg_entry_eq]
  generalize (lg_sl ([.ref (ad 34), .int p1, .int p2]) ++ List.replicate (3 - (lg_sl ([.ref (ad 34), .int p1, .int p2])).length) Slot.unset).toArray = ls at hl ⊢
  have hl : lv_has ls 3 [(0, .ref (ad 34)), (1, .int p1), (2, .int p2)] := hl
  unfold f_X3_place at h
  refine lv_iload_n hx hb dX3_place_0 rfl (lv_at hl 1 rfl) ?_
  refine lv_bipush (v := (8 : Int32)) hx hb dX3_place_1 (by decide) ?_
  refine lv_imul hx hb dX3_place_3 ?_
  refine lv_iload_n hx hb dX3_place_4 rfl (lv_at hl 2 rfl) ?_
  refine lv_iadd hx hb dX3_place_5 ?_
  refine lv_iconst (v := (4 : Int32)) hx hb dX3_place_6 (by decide) ?_
  refine lv_imul hx hb dX3_place_7 ?_
  obtain rfl := Option.some.inj h
  exact g_iret hx hb hr hlocks hM hS dX3_place_8
def f_X3_setupRise (p1 : Int32) (p2 : Int32) (μ : gM) : Option (Int32) :=
  Option.bind (f_X3_place p1 p2 μ) (fun q1 => gchk (gIn (q1 + (0 : Int32)) 640) (gchk (gIn (q1 + (1 : Int32)) 640) (gchk (gIn p1 20) (gchk (gIn (gi μ 42 p1.toNatClampNeg) 3) (gchk (gIn (q1 + (2 : Int32)) 640) (gchk (gIn (q1 + (3 : Int32)) 640) (some (((100 : Int32) * ((gi μ 44 (q1 + (0 : Int32)).toNatClampNeg) - (gi μ 44 (q1 + (1 : Int32)).toNatClampNeg))) - ((gi μ 37 (gi μ 42 p1.toNatClampNeg).toNatClampNeg) * ((gi μ 44 (q1 + (2 : Int32)).toNatClampNeg) - (gi μ 44 (q1 + (3 : Int32)).toNatClampNeg)))))))))))
set_option maxHeartbeats 4000000 in
set_option maxRecDepth 100000 in
theorem c_X3_setupRise {l : Launch} {D : va_G} {cy : Nat → ClassId} {ad : Nat → Nat} {base : gBs} {p1 : Int32} {p2 : Int32} {μ : gM} {RES : Int32} (h : f_X3_setupRise p1 p2 μ = some RES) : Met l yX3_setupRise [.code yX3_setupRise cX3_setupRise 4 (some .int)] ({ frames := 1, cells := 0, slots := 0, locals := 22 } : Room) (va_Pc [.ref (ad 34), .int p1, .int p2] (gB l gFull D cy ad base μ)) (gQ (some (.int RES)) gFull D cy ad base μ) 0 0 (gA base) := by
  refine Met.ofW (cc := cX3_setupRise) (maxL := 4) (ret := (some .int)) (by decide) rfl ?_
  intro p e s m args below meth c s₁ B hml0 hv
  obtain ⟨rfl, E, hM⟩ := hv
  have F : gF p s m meth c cX3_setupRise RX3 4 (some .int) := gF_of B hml0
  obtain ⟨hx, hb, hml, hown, hlocks, hr⟩ := id F
  have hS : va_S (gA base) s.heap s.heap [] := va_S.rf
  have hl := lv_entry ([.ref (ad 34), .int p1, .int p2]) (n := 4) (Nat.le_of_ble_eq_true rfl)
  rw [lg_entry_eq]
  generalize (lg_sl ([.ref (ad 34), .int p1, .int p2]) ++ List.replicate (4 - (lg_sl ([.ref (ad 34), .int p1, .int p2])).length) Slot.unset).toArray = ls at hl ⊢
  have hl : lv_has ls 4 [(0, .ref (ad 34)), (1, .int p1), (2, .int p2)] := hl
  unfold f_X3_setupRise at h
  refine lv_aload_n hx hb dX3_setupRise_0 rfl (lv_at hl 0 rfl) ?_
  refine lv_iload_n hx hb dX3_setupRise_1 rfl (lv_at hl 1 rfl) ?_
  refine lv_iload_n hx hb dX3_setupRise_2 rfl (lv_at hl 2 rfl) ?_
  obtain ⟨q1, hq1, h⟩ := gbind_e h
  refine g_callV (As := [.int p1, .int p2]) (rest := []) hx hb (hml.trans hl.1.symm) hown E hM hS hy_X3_place kw_124 (c_X3_place hq1) hk_34 dd_34 rfl rfl rfl (Nat.le_of_ble_eq_true rfl) ⟨Nat.le_of_ble_eq_true rfl, Nat.le_of_ble_eq_true rfl⟩ ⟨Nat.le_of_ble_eq_true rfl, Nat.le_of_ble_eq_true rfl⟩ dX3_setupRise_3 (fun H locs hM hS => ?_)
  refine lv_istore_n (lv' := [(3, .int q1), (0, .ref (ad 34)), (1, .int p1), (2, .int p2)]) hx hb dX3_setupRise_6 rfl hl (by decide) rfl (fun ls hl => ?_)
  refine lv_bipush (v := (100 : Int32)) hx hb dX3_setupRise_7 (by decide) ?_
  refine lv_aload_n hx hb dX3_setupRise_9 rfl (lv_at hl 1 rfl) ?_
  refine gg_34_14 hx hb hown E hM hk_34 kw_444 dX3_setupRise_10 ?_
  refine lv_iload_n hx hb dX3_setupRise_13 rfl (lv_at hl 0 rfl) ?_
  refine lv_iconst (v := (0 : Int32)) hx hb dX3_setupRise_14 (by decide) ?_
  refine lv_iadd hx hb dX3_setupRise_15 ?_
  obtain ⟨c2, h⟩ := gchk_e h
  refine g_iald hx hb E hM hk_44 dd_44 c2 dX3_setupRise_16 ?_
  refine lv_aload_n hx hb dX3_setupRise_17 rfl (lv_at hl 1 rfl) ?_
  refine gg_34_14 hx hb hown E hM hk_34 kw_444 dX3_setupRise_18 ?_
  refine lv_iload_n hx hb dX3_setupRise_21 rfl (lv_at hl 0 rfl) ?_
  refine lv_iconst (v := (1 : Int32)) hx hb dX3_setupRise_22 (by decide) ?_
  refine lv_iadd hx hb dX3_setupRise_23 ?_
  obtain ⟨c3, h⟩ := gchk_e h
  refine g_iald hx hb E hM hk_44 dd_44 c3 dX3_setupRise_24 ?_
  refine lv_isub hx hb dX3_setupRise_25 ?_
  refine lv_imul hx hb dX3_setupRise_26 ?_
  refine lv_aload_n hx hb dX3_setupRise_27 rfl (lv_at hl 1 rfl) ?_
  refine gg_34_7 hx hb hown E hM hk_34 kw_417 dX3_setupRise_28 ?_
  refine lv_aload_n hx hb dX3_setupRise_31 rfl (lv_at hl 1 rfl) ?_
  refine gg_34_12 hx hb hown E hM hk_34 kw_438 dX3_setupRise_32 ?_
  refine lv_iload_n hx hb dX3_setupRise_35 rfl (lv_at hl 2 rfl) ?_
  obtain ⟨c4, h⟩ := gchk_e h
  refine g_iald hx hb E hM hk_42 dd_42 c4 dX3_setupRise_36 ?_
  obtain ⟨c5, h⟩ := gchk_e h
  refine g_iald hx hb E hM hk_37 dd_37 c5 dX3_setupRise_37 ?_
  refine lv_aload_n hx hb dX3_setupRise_38 rfl (lv_at hl 1 rfl) ?_
  refine gg_34_14 hx hb hown E hM hk_34 kw_444 dX3_setupRise_39 ?_
  refine lv_iload_n hx hb dX3_setupRise_42 rfl (lv_at hl 0 rfl) ?_
  refine lv_iconst (v := (2 : Int32)) hx hb dX3_setupRise_43 (by decide) ?_
  refine lv_iadd hx hb dX3_setupRise_44 ?_
  obtain ⟨c6, h⟩ := gchk_e h
  refine g_iald hx hb E hM hk_44 dd_44 c6 dX3_setupRise_45 ?_
  refine lv_aload_n hx hb dX3_setupRise_46 rfl (lv_at hl 1 rfl) ?_
  refine gg_34_14 hx hb hown E hM hk_34 kw_444 dX3_setupRise_47 ?_
  refine lv_iload_n hx hb dX3_setupRise_50 rfl (lv_at hl 0 rfl) ?_
  refine lv_iconst (v := (3 : Int32)) hx hb dX3_setupRise_51 (by decide) ?_
  refine lv_iadd hx hb dX3_setupRise_52 ?_
  obtain ⟨c7, h⟩ := gchk_e h
  refine g_iald hx hb E hM hk_44 dd_44 c7 dX3_setupRise_53 ?_
  refine lv_isub hx hb dX3_setupRise_54 ?_
  refine lv_imul hx hb dX3_setupRise_55 ?_
  refine lv_isub hx hb dX3_setupRise_56 ?_
  obtain rfl := Option.some.inj h
  exact g_iret hx hb hr hlocks hM hS dX3_setupRise_57
def b_X3_lineRise_4 (x1 : Int32) (x2 : Int32) (x3 : Int32) (μ : gM) : Option ((Int32 × Int32) ⊕ (Int32)) :=
  gchk (gIn x1 20) (if ((gi μ 43 x1.toNatClampNeg) ≤ x3) then some (.inr x2) else Option.bind (f_X3_setupRise x1 x3 μ) (fun q3 => some (.inl ((x2 + q3), (x3 + (1 : Int32))))))
set_option maxHeartbeats 4000000 in
set_option maxRecDepth 100000 in
theorem wb_X3_lineRise_4 {p : Program} {l : Launch} {e : Env} {s : State} {m : MethodId} {args : Array Value} {below : List Frame} {meth : Method} {c : Code} {D : va_G} {cy : Nat → ClassId} {ad : Nat → Nat} {base : gBs} {x1 : Int32} {x2 : Int32} {x3 : Int32} {μ : gM} {o : (Int32 × Int32) ⊕ (Int32)} {RES : Int32} (h : b_X3_lineRise_4 x1 x2 x3 μ = some o) (F : gF p s m meth c cX3_lineRise RX3 4 (some .int)) (E : gEnv l D cy ad base s) (kc : ∀ (t : Int32 × Int32) {H : Heap} {locs : List Loc} {ls : Array Slot}, o = .inl t → gW gFull D cy ad base μ H → va_S (gA base) s.heap H locs → lv_has ls 4 [(0, .ref (ad 34)), (1, .int x1), (2, .int t.1), (3, .int t.2)] → W p l e ({ frames := 2, cells := 0, slots := 0, locals := 45 } : Room) s m args below meth c H locs 0 0 (MQ below (gQ (some (.int RES)) gFull D cy ad base μ) args s 0 0 (gA base)) (F0 m 4 ls [])) (kx : ∀ (t : Int32) {H : Heap} {locs : List Loc} {ls : Array Slot}, o = .inr t → gW gFull D cy ad base μ H → va_S (gA base) s.heap H locs → lv_has ls 4 [(2, .int t)] → W p l e ({ frames := 2, cells := 0, slots := 0, locals := 45 } : Room) s m args below meth c H locs 0 0 (MQ below (gQ (some (.int RES)) gFull D cy ad base μ) args s 0 0 (gA base)) (F0 m 29 ls []))  {H : Heap} {locs : List Loc} {ls : Array Slot} (hM : gW gFull D cy ad base μ H) (hS : va_S (gA base) s.heap H locs) (hl : lv_has ls 4 [(0, .ref (ad 34)), (1, .int x1), (2, .int x2), (3, .int x3)]) : W p l e ({ frames := 2, cells := 0, slots := 0, locals := 45 } : Room) s m args below meth c H locs 0 0 (MQ below (gQ (some (.int RES)) gFull D cy ad base μ) args s 0 0 (gA base)) (F0 m 4 ls []) := by
  obtain ⟨hx, hb, hml, hown, hlocks, hr⟩ := id F
  unfold b_X3_lineRise_4 at h
  refine lv_iload_n hx hb dX3_lineRise_4 rfl (lv_at hl 3 rfl) ?_
  refine lv_aload_n hx hb dX3_lineRise_5 rfl (lv_at hl 0 rfl) ?_
  refine gg_34_13 hx hb hown E hM hk_34 kw_441 dX3_lineRise_6 ?_
  refine lv_iload_n hx hb dX3_lineRise_9 rfl (lv_at hl 1 rfl) ?_
  obtain ⟨c1, h⟩ := gchk_e h
  refine g_iald hx hb E hM hk_43 dd_43 c1 dX3_lineRise_10 ?_
  refine lv_icmp_ge (tgt := 29) hx hb dX3_lineRise_11 (by decide) (fun c2 => ?_) (fun c2 => ?_)
  · replace h := gif_t c2 h
    exact kx _ (Option.some.inj h).symm hM hS (lv_sub hl [2] rfl)
  · replace h := gif_f c2 h
    refine lv_iload_n hx hb dX3_lineRise_14 rfl (lv_at hl 2 rfl) ?_
    refine lv_aload_n hx hb dX3_lineRise_15 rfl (lv_at hl 0 rfl) ?_
    refine lv_iload_n hx hb dX3_lineRise_16 rfl (lv_at hl 1 rfl) ?_
    refine lv_iload_n hx hb dX3_lineRise_17 rfl (lv_at hl 3 rfl) ?_
    obtain ⟨q3, hq3, h⟩ := gbind_e h
    refine g_callV (As := [.int x1, .int x3]) (rest := [.int x2]) hx hb (hml.trans hl.1.symm) hown E hM hS hy_X3_setupRise kw_120 (c_X3_setupRise hq3) hk_34 dd_34 rfl rfl rfl (Nat.le_of_ble_eq_true rfl) ⟨Nat.le_of_ble_eq_true rfl, Nat.le_of_ble_eq_true rfl⟩ ⟨Nat.le_of_ble_eq_true rfl, Nat.le_of_ble_eq_true rfl⟩ dX3_lineRise_18 (fun H locs hM hS => ?_)
    refine lv_iadd hx hb dX3_lineRise_21 ?_
    refine lv_istore_n (lv' := [(2, .int (x2 + q3)), (0, .ref (ad 34)), (1, .int x1), (3, .int x3)]) hx hb dX3_lineRise_22 rfl hl (by decide) rfl (fun ls hl => ?_)
    refine lv_iinc (v := (x3 + (1 : Int32))) (lv' := [(3, .int (x3 + (1 : Int32))), (2, .int (x2 + q3)), (0, .ref (ad 34)), (1, .int x1)]) hx hb dX3_lineRise_23 hl (k := 3) rfl rfl (by decide) rfl (fun ls hl => ?_)
    refine lv_goto (tgt := 4) hx hb dX3_lineRise_26 (by decide) ?_
    exact kc _ (Option.some.inj h).symm hM hS (lv_sub hl [2, 3, 1, 0] rfl)
set_option maxHeartbeats 4000000 in
theorem wl_X3_lineRise_4 {p : Program} {l : Launch} {e : Env} {s : State} {m : MethodId} {args : Array Value} {below : List Frame} {meth : Method} {c : Code} {D : va_G} {cy : Nat → ClassId} {ad : Nat → Nat} {base : gBs} {x1 : Int32} {μ : gM} {r : Int32} {RES : Int32} (F : gF p s m meth c cX3_lineRise RX3 4 (some .int)) (E : gEnv l D cy ad base s) (kx : ∀ (t : Int32) {H : Heap} {locs : List Loc} {ls : Array Slot}, r = t → gW gFull D cy ad base μ H → va_S (gA base) s.heap H locs → lv_has ls 4 [(2, .int t)] → W p l e ({ frames := 2, cells := 0, slots := 0, locals := 45 } : Room) s m args below meth c H locs 0 0 (MQ below (gQ (some (.int RES)) gFull D cy ad base μ) args s 0 0 (gA base)) (F0 m 29 ls []))  : ∀ (n : Nat) (x2 : Int32) (x3 : Int32), gloop (fun t => b_X3_lineRise_4 x1 t.1 t.2 μ) n (x2, x3) = some r → ∀ {H : Heap} {locs : List Loc} {ls : Array Slot}, gW gFull D cy ad base μ H → va_S (gA base) s.heap H locs → lv_has ls 4 [(0, .ref (ad 34)), (1, .int x1), (2, .int x2), (3, .int x3)] → W p l e ({ frames := 2, cells := 0, slots := 0, locals := 45 } : Room) s m args below meth c H locs 0 0 (MQ below (gQ (some (.int RES)) gFull D cy ad base μ) args s 0 0 (gA base)) (F0 m 4 ls []) := by
  intro n
  induction n with
  | zero =>
    intro x2 x3 h
    exact (gloop_0 h).elim
  | succ n ih =>
    intro x2 x3 h H locs ls hM hS hl
    obtain ⟨o, h0, hc, hq⟩ := gloop_s h
    have h1 : b_X3_lineRise_4 x1 x2 x3 μ = some o := h0
    exact wb_X3_lineRise_4 h1 F E (fun t H locs ls ho hM hS hl => ih t.1 t.2 (hc t ho) hM hS hl) (fun t H locs ls ho hM hS hl => kx t (hq _ ho).symm hM hS hl) hM hS hl
def f_X3_lineRise (p1 : Int32) (μ : gM) : Option (Int32) :=
  Option.bind (gloop (fun t => b_X3_lineRise_4 p1 t.1 t.2 μ) gFuel ((0 : Int32), (0 : Int32))) (fun q4 => some q4)
set_option maxHeartbeats 4000000 in
set_option maxRecDepth 100000 in
theorem c_X3_lineRise {l : Launch} {D : va_G} {cy : Nat → ClassId} {ad : Nat → Nat} {base : gBs} {p1 : Int32} {μ : gM} {RES : Int32} (h : f_X3_lineRise p1 μ = some RES) : Met l yX3_lineRise [.code yX3_lineRise cX3_lineRise 4 (some .int)] ({ frames := 2, cells := 0, slots := 0, locals := 45 } : Room) (va_Pc [.ref (ad 34), .int p1] (gB l gFull D cy ad base μ)) (gQ (some (.int RES)) gFull D cy ad base μ) 0 0 (gA base) := by
  refine Met.ofW (cc := cX3_lineRise) (maxL := 4) (ret := (some .int)) (by decide) rfl ?_
  intro p e s m args below meth c s₁ B hml0 hv
  obtain ⟨rfl, E, hM⟩ := hv
  have F : gF p s m meth c cX3_lineRise RX3 4 (some .int) := gF_of B hml0
  obtain ⟨hx, hb, hml, hown, hlocks, hr⟩ := id F
  have hS : va_S (gA base) s.heap s.heap [] := va_S.rf
  have hl := lv_entry ([.ref (ad 34), .int p1]) (n := 4) (Nat.le_of_ble_eq_true rfl)
  rw [lg_entry_eq]
  generalize (lg_sl ([.ref (ad 34), .int p1]) ++ List.replicate (4 - (lg_sl ([.ref (ad 34), .int p1])).length) Slot.unset).toArray = ls at hl ⊢
  have hl : lv_has ls 4 [(0, .ref (ad 34)), (1, .int p1)] := hl
  unfold f_X3_lineRise at h
  refine lv_iconst (v := (0 : Int32)) hx hb dX3_lineRise_0 (by decide) ?_
  refine lv_istore_n (lv' := [(2, .int (0 : Int32)), (0, .ref (ad 34)), (1, .int p1)]) hx hb dX3_lineRise_1 rfl hl (by decide) rfl (fun ls hl => ?_)
  refine lv_iconst (v := (0 : Int32)) hx hb dX3_lineRise_2 (by decide) ?_
  refine lv_istore_n (lv' := [(3, .int (0 : Int32)), (2, .int (0 : Int32)), (0, .ref (ad 34)), (1, .int p1)]) hx hb dX3_lineRise_3 rfl hl (by decide) rfl (fun ls hl => ?_)
  obtain ⟨z5, h1, h⟩ := gbind_e h
  refine wl_X3_lineRise_4 F E (r := z5) (fun q4 H locs ls e1 hM hS hl => ?_) gFuel (0 : Int32) (0 : Int32) h1 hM hS (lv_sub hl [2, 3, 1, 0] rfl)
  replace e1 : z5 = q4 := e1
  rw [e1] at h
  refine lv_iload_n hx hb dX3_lineRise_29 rfl (lv_at hl 0 rfl) ?_
  obtain rfl := Option.some.inj h
  exact g_iret hx hb hr hlocks hM hS dX3_lineRise_30
def f_X3_riseFrom (p1 : Int32) (p2 : Int32) (μ : gM) : Option (Int32) :=
  gchk (gIn p1 20) (if ((gi μ 40 p1.toNatClampNeg) = p2) then Option.bind (f_X3_lineRise p1 μ) (fun q4 => some q4) else Option.bind (f_X3_lineRise p1 μ) (fun q3 => some (-q3)))
set_option maxHeartbeats 4000000 in
set_option maxRecDepth 100000 in
theorem c_X3_riseFrom {l : Launch} {D : va_G} {cy : Nat → ClassId} {ad : Nat → Nat} {base : gBs} {p1 : Int32} {p2 : Int32} {μ : gM} {RES : Int32} (h : f_X3_riseFrom p1 p2 μ = some RES) : Met l yX3_riseFrom [.code yX3_riseFrom cX3_riseFrom 3 (some .int)] ({ frames := 3, cells := 0, slots := 0, locals := 68 } : Room) (va_Pc [.ref (ad 34), .int p1, .int p2] (gB l gFull D cy ad base μ)) (gQ (some (.int RES)) gFull D cy ad base μ) 0 0 (gA base) := by
  refine Met.ofW (cc := cX3_riseFrom) (maxL := 3) (ret := (some .int)) (by decide) rfl ?_
  intro p e s m args below meth c s₁ B hml0 hv
  obtain ⟨rfl, E, hM⟩ := hv
  have F : gF p s m meth c cX3_riseFrom RX3 3 (some .int) := gF_of B hml0
  obtain ⟨hx, hb, hml, hown, hlocks, hr⟩ := id F
  have hS : va_S (gA base) s.heap s.heap [] := va_S.rf
  have hl := lv_entry ([.ref (ad 34), .int p1, .int p2]) (n := 3) (Nat.le_of_ble_eq_true rfl)
  rw [lg_entry_eq]
  generalize (lg_sl ([.ref (ad 34), .int p1, .int p2]) ++ List.replicate (3 - (lg_sl ([.ref (ad 34), .int p1, .int p2])).length) Slot.unset).toArray = ls at hl ⊢
  have hl : lv_has ls 3 [(0, .ref (ad 34)), (1, .int p1), (2, .int p2)] := hl
  unfold f_X3_riseFrom at h
  refine lv_aload_n hx hb dX3_riseFrom_0 rfl (lv_at hl 0 rfl) ?_
  refine gg_34_10 hx hb hown E hM hk_34 kw_426 dX3_riseFrom_1 ?_
  refine lv_iload_n hx hb dX3_riseFrom_4 rfl (lv_at hl 1 rfl) ?_
  obtain ⟨c1, h⟩ := gchk_e h
  refine g_iald hx hb E hM hk_40 dd_40 c1 dX3_riseFrom_5 ?_
  refine lv_iload_n hx hb dX3_riseFrom_6 rfl (lv_at hl 2 rfl) ?_
  refine lv_icmp_ne (tgt := 18) hx hb dX3_riseFrom_7 (by decide) (fun c2 => ?_) (fun c2 => ?_)
  · replace h := gif_f c2 h
    refine lv_aload_n hx hb dX3_riseFrom_18 rfl (lv_at hl 0 rfl) ?_
    refine lv_iload_n hx hb dX3_riseFrom_19 rfl (lv_at hl 1 rfl) ?_
    obtain ⟨q3, hq3, h⟩ := gbind_e h
    refine g_callV (As := [.int p1]) (rest := []) hx hb (hml.trans hl.1.symm) hown E hM hS hy_X3_lineRise kw_116 (c_X3_lineRise hq3) hk_34 dd_34 rfl rfl rfl (Nat.le_of_ble_eq_true rfl) ⟨Nat.le_of_ble_eq_true rfl, Nat.le_of_ble_eq_true rfl⟩ ⟨Nat.le_of_ble_eq_true rfl, Nat.le_of_ble_eq_true rfl⟩ dX3_riseFrom_20 (fun H locs hM hS => ?_)
    refine lv_ineg hx hb dX3_riseFrom_23 ?_
    obtain rfl := Option.some.inj h
    exact g_iret hx hb hr hlocks hM hS dX3_riseFrom_24
  · replace h := gif_t c2 h
    refine lv_aload_n hx hb dX3_riseFrom_10 rfl (lv_at hl 0 rfl) ?_
    refine lv_iload_n hx hb dX3_riseFrom_11 rfl (lv_at hl 1 rfl) ?_
    obtain ⟨q4, hq4, h⟩ := gbind_e h
    refine g_callV (As := [.int p1]) (rest := []) hx hb (hml.trans hl.1.symm) hown E hM hS hy_X3_lineRise kw_116 (c_X3_lineRise hq4) hk_34 dd_34 rfl rfl rfl (Nat.le_of_ble_eq_true rfl) ⟨Nat.le_of_ble_eq_true rfl, Nat.le_of_ble_eq_true rfl⟩ ⟨Nat.le_of_ble_eq_true rfl, Nat.le_of_ble_eq_true rfl⟩ dX3_riseFrom_12 (fun H locs hM hS => ?_)
    refine lv_goto (tgt := 24) hx hb dX3_riseFrom_15 (by decide) ?_
    obtain rfl := Option.some.inj h
    exact g_iret hx hb hr hlocks hM hS dX3_riseFrom_24
def b_X3_lineLength_4 (x1 : Int32) (x2 : Int32) (x3 : Int32) (μ : gM) : Option ((Int32 × Int32) ⊕ (Int32)) :=
  gchk (gIn x1 20) (if ((gi μ 43 x1.toNatClampNeg) ≤ x3) then some (.inr x2) else Option.bind (f_X3_place x1 x3 μ) (fun q3 => gchk (gIn (q3 + (2 : Int32)) 640) (gchk (gIn (q3 + (3 : Int32)) 640) (some (.inl ((x2 + ((gi μ 44 (q3 + (2 : Int32)).toNatClampNeg) + (gi μ 44 (q3 + (3 : Int32)).toNatClampNeg))), (x3 + (1 : Int32))))))))
set_option maxHeartbeats 4000000 in
set_option maxRecDepth 100000 in
theorem wb_X3_lineLength_4 {p : Program} {l : Launch} {e : Env} {s : State} {m : MethodId} {args : Array Value} {below : List Frame} {meth : Method} {c : Code} {D : va_G} {cy : Nat → ClassId} {ad : Nat → Nat} {base : gBs} {x1 : Int32} {x2 : Int32} {x3 : Int32} {μ : gM} {o : (Int32 × Int32) ⊕ (Int32)} {RES : Int32} (h : b_X3_lineLength_4 x1 x2 x3 μ = some o) (F : gF p s m meth c cX3_lineLength RX3 5 (some .int)) (E : gEnv l D cy ad base s) (kc : ∀ (t : Int32 × Int32) {H : Heap} {locs : List Loc} {ls : Array Slot}, o = .inl t → gW gFull D cy ad base μ H → va_S (gA base) s.heap H locs → lv_has ls 5 [(0, .ref (ad 34)), (1, .int x1), (2, .int t.1), (3, .int t.2)] → W p l e ({ frames := 1, cells := 0, slots := 0, locals := 22 } : Room) s m args below meth c H locs 0 0 (MQ below (gQ (some (.int RES)) gFull D cy ad base μ) args s 0 0 (gA base)) (F0 m 4 ls [])) (kx : ∀ (t : Int32) {H : Heap} {locs : List Loc} {ls : Array Slot}, o = .inr t → gW gFull D cy ad base μ H → va_S (gA base) s.heap H locs → lv_has ls 5 [(2, .int t)] → W p l e ({ frames := 1, cells := 0, slots := 0, locals := 22 } : Room) s m args below meth c H locs 0 0 (MQ below (gQ (some (.int RES)) gFull D cy ad base μ) args s 0 0 (gA base)) (F0 m 50 ls []))  {H : Heap} {locs : List Loc} {ls : Array Slot} (hM : gW gFull D cy ad base μ H) (hS : va_S (gA base) s.heap H locs) (hl : lv_has ls 5 [(0, .ref (ad 34)), (1, .int x1), (2, .int x2), (3, .int x3)]) : W p l e ({ frames := 1, cells := 0, slots := 0, locals := 22 } : Room) s m args below meth c H locs 0 0 (MQ below (gQ (some (.int RES)) gFull D cy ad base μ) args s 0 0 (gA base)) (F0 m 4 ls []) := by
  obtain ⟨hx, hb, hml, hown, hlocks, hr⟩ := id F
  unfold b_X3_lineLength_4 at h
  refine lv_iload_n hx hb dX3_lineLength_4 rfl (lv_at hl 3 rfl) ?_
  refine lv_aload_n hx hb dX3_lineLength_5 rfl (lv_at hl 0 rfl) ?_
  refine gg_34_13 hx hb hown E hM hk_34 kw_441 dX3_lineLength_6 ?_
  refine lv_iload_n hx hb dX3_lineLength_9 rfl (lv_at hl 1 rfl) ?_
  obtain ⟨c1, h⟩ := gchk_e h
  refine g_iald hx hb E hM hk_43 dd_43 c1 dX3_lineLength_10 ?_
  refine lv_icmp_ge (tgt := 50) hx hb dX3_lineLength_11 (by decide) (fun c2 => ?_) (fun c2 => ?_)
  · replace h := gif_t c2 h
    exact kx _ (Option.some.inj h).symm hM hS (lv_sub hl [2] rfl)
  · replace h := gif_f c2 h
    refine lv_aload_n hx hb dX3_lineLength_14 rfl (lv_at hl 0 rfl) ?_
    refine lv_iload_n hx hb dX3_lineLength_15 rfl (lv_at hl 1 rfl) ?_
    refine lv_iload_n hx hb dX3_lineLength_16 rfl (lv_at hl 3 rfl) ?_
    obtain ⟨q3, hq3, h⟩ := gbind_e h
    refine g_callV (As := [.int x1, .int x3]) (rest := []) hx hb (hml.trans hl.1.symm) hown E hM hS hy_X3_place kw_124 (c_X3_place hq3) hk_34 dd_34 rfl rfl rfl (Nat.le_of_ble_eq_true rfl) ⟨Nat.le_of_ble_eq_true rfl, Nat.le_of_ble_eq_true rfl⟩ ⟨Nat.le_of_ble_eq_true rfl, Nat.le_of_ble_eq_true rfl⟩ dX3_lineLength_17 (fun H locs hM hS => ?_)
    refine lv_istore (lv' := [(4, .int q3), (0, .ref (ad 34)), (1, .int x1), (2, .int x2), (3, .int x3)]) hx hb dX3_lineLength_20 hl (by decide) rfl (fun ls hl => ?_)
    refine lv_iload_n hx hb dX3_lineLength_22 rfl (lv_at hl 3 rfl) ?_
    refine lv_aload_n hx hb dX3_lineLength_23 rfl (lv_at hl 1 rfl) ?_
    refine gg_34_14 hx hb hown E hM hk_34 kw_444 dX3_lineLength_24 ?_
    refine lv_iload hx hb dX3_lineLength_27 (lv_at hl 0 rfl) ?_
    refine lv_iconst (v := (2 : Int32)) hx hb dX3_lineLength_29 (by decide) ?_
    refine lv_iadd hx hb dX3_lineLength_30 ?_
    obtain ⟨c4, h⟩ := gchk_e h
    refine g_iald hx hb E hM hk_44 dd_44 c4 dX3_lineLength_31 ?_
    refine lv_aload_n hx hb dX3_lineLength_32 rfl (lv_at hl 1 rfl) ?_
    refine gg_34_14 hx hb hown E hM hk_34 kw_444 dX3_lineLength_33 ?_
    refine lv_iload hx hb dX3_lineLength_36 (lv_at hl 0 rfl) ?_
    refine lv_iconst (v := (3 : Int32)) hx hb dX3_lineLength_38 (by decide) ?_
    refine lv_iadd hx hb dX3_lineLength_39 ?_
    obtain ⟨c5, h⟩ := gchk_e h
    refine g_iald hx hb E hM hk_44 dd_44 c5 dX3_lineLength_40 ?_
    refine lv_iadd hx hb dX3_lineLength_41 ?_
    refine lv_iadd hx hb dX3_lineLength_42 ?_
    refine lv_istore_n (lv' := [(2, .int (x2 + ((gi μ 44 (q3 + (2 : Int32)).toNatClampNeg) + (gi μ 44 (q3 + (3 : Int32)).toNatClampNeg)))), (4, .int q3), (0, .ref (ad 34)), (1, .int x1), (3, .int x3)]) hx hb dX3_lineLength_43 rfl hl (by decide) rfl (fun ls hl => ?_)
    refine lv_iinc (v := (x3 + (1 : Int32))) (lv' := [(3, .int (x3 + (1 : Int32))), (2, .int (x2 + ((gi μ 44 (q3 + (2 : Int32)).toNatClampNeg) + (gi μ 44 (q3 + (3 : Int32)).toNatClampNeg)))), (4, .int q3), (0, .ref (ad 34)), (1, .int x1)]) hx hb dX3_lineLength_44 hl (k := 4) rfl rfl (by decide) rfl (fun ls hl => ?_)
    refine lv_goto (tgt := 4) hx hb dX3_lineLength_47 (by decide) ?_
    exact kc _ (Option.some.inj h).symm hM hS (lv_sub hl [3, 4, 1, 0] rfl)
set_option maxHeartbeats 4000000 in
theorem wl_X3_lineLength_4 {p : Program} {l : Launch} {e : Env} {s : State} {m : MethodId} {args : Array Value} {below : List Frame} {meth : Method} {c : Code} {D : va_G} {cy : Nat → ClassId} {ad : Nat → Nat} {base : gBs} {x1 : Int32} {μ : gM} {r : Int32} {RES : Int32} (F : gF p s m meth c cX3_lineLength RX3 5 (some .int)) (E : gEnv l D cy ad base s) (kx : ∀ (t : Int32) {H : Heap} {locs : List Loc} {ls : Array Slot}, r = t → gW gFull D cy ad base μ H → va_S (gA base) s.heap H locs → lv_has ls 5 [(2, .int t)] → W p l e ({ frames := 1, cells := 0, slots := 0, locals := 22 } : Room) s m args below meth c H locs 0 0 (MQ below (gQ (some (.int RES)) gFull D cy ad base μ) args s 0 0 (gA base)) (F0 m 50 ls []))  : ∀ (n : Nat) (x2 : Int32) (x3 : Int32), gloop (fun t => b_X3_lineLength_4 x1 t.1 t.2 μ) n (x2, x3) = some r → ∀ {H : Heap} {locs : List Loc} {ls : Array Slot}, gW gFull D cy ad base μ H → va_S (gA base) s.heap H locs → lv_has ls 5 [(0, .ref (ad 34)), (1, .int x1), (2, .int x2), (3, .int x3)] → W p l e ({ frames := 1, cells := 0, slots := 0, locals := 22 } : Room) s m args below meth c H locs 0 0 (MQ below (gQ (some (.int RES)) gFull D cy ad base μ) args s 0 0 (gA base)) (F0 m 4 ls []) := by
  intro n
  induction n with
  | zero =>
    intro x2 x3 h
    exact (gloop_0 h).elim
  | succ n ih =>
    intro x2 x3 h H locs ls hM hS hl
    obtain ⟨o, h0, hc, hq⟩ := gloop_s h
    have h1 : b_X3_lineLength_4 x1 x2 x3 μ = some o := h0
    exact wb_X3_lineLength_4 h1 F E (fun t H locs ls ho hM hS hl => ih t.1 t.2 (hc t ho) hM hS hl) (fun t H locs ls ho hM hS hl => kx t (hq _ ho).symm hM hS hl) hM hS hl
def f_X3_lineLength (p1 : Int32) (μ : gM) : Option (Int32) :=
  Option.bind (gloop (fun t => b_X3_lineLength_4 p1 t.1 t.2 μ) gFuel ((0 : Int32), (0 : Int32))) (fun q6 => some q6)
set_option maxHeartbeats 4000000 in
set_option maxRecDepth 100000 in
theorem c_X3_lineLength {l : Launch} {D : va_G} {cy : Nat → ClassId} {ad : Nat → Nat} {base : gBs} {p1 : Int32} {μ : gM} {RES : Int32} (h : f_X3_lineLength p1 μ = some RES) : Met l yX3_lineLength [.code yX3_lineLength cX3_lineLength 5 (some .int)] ({ frames := 1, cells := 0, slots := 0, locals := 22 } : Room) (va_Pc [.ref (ad 34), .int p1] (gB l gFull D cy ad base μ)) (gQ (some (.int RES)) gFull D cy ad base μ) 0 0 (gA base) := by
  refine Met.ofW (cc := cX3_lineLength) (maxL := 5) (ret := (some .int)) (by decide) rfl ?_
  intro p e s m args below meth c s₁ B hml0 hv
  obtain ⟨rfl, E, hM⟩ := hv
  have F : gF p s m meth c cX3_lineLength RX3 5 (some .int) := gF_of B hml0
  obtain ⟨hx, hb, hml, hown, hlocks, hr⟩ := id F
  have hS : va_S (gA base) s.heap s.heap [] := va_S.rf
  have hl := lv_entry ([.ref (ad 34), .int p1]) (n := 5) (Nat.le_of_ble_eq_true rfl)
  rw [lg_entry_eq]
  generalize (lg_sl ([.ref (ad 34), .int p1]) ++ List.replicate (5 - (lg_sl ([.ref (ad 34), .int p1])).length) Slot.unset).toArray = ls at hl ⊢
  have hl : lv_has ls 5 [(0, .ref (ad 34)), (1, .int p1)] := hl
  unfold f_X3_lineLength at h
  refine lv_iconst (v := (0 : Int32)) hx hb dX3_lineLength_0 (by decide) ?_
  refine lv_istore_n (lv' := [(2, .int (0 : Int32)), (0, .ref (ad 34)), (1, .int p1)]) hx hb dX3_lineLength_1 rfl hl (by decide) rfl (fun ls hl => ?_)
  refine lv_iconst (v := (0 : Int32)) hx hb dX3_lineLength_2 (by decide) ?_
  refine lv_istore_n (lv' := [(3, .int (0 : Int32)), (2, .int (0 : Int32)), (0, .ref (ad 34)), (1, .int p1)]) hx hb dX3_lineLength_3 rfl hl (by decide) rfl (fun ls hl => ?_)
  obtain ⟨z7, h1, h⟩ := gbind_e h
  refine wl_X3_lineLength_4 F E (r := z7) (fun q6 H locs ls e1 hM hS hl => ?_) gFuel (0 : Int32) (0 : Int32) h1 hM hS (lv_sub hl [2, 3, 1, 0] rfl)
  replace e1 : z7 = q6 := e1
  rw [e1] at h
  refine lv_iload_n hx hb dX3_lineLength_50 rfl (lv_at hl 0 rfl) ?_
  obtain rfl := Option.some.inj h
  exact g_iret hx hb hr hlocks hM hS dX3_lineLength_51
def f_X3_lineWeight (p1 : Int32) (μ : gM) : Option (Int32) :=
  Option.bind (f_X3_lineLength p1 μ) (fun q1 => if (q1 ≤ 0) then some (0 : Int32) else gchk (¬ q1 = 0) (some ((1000000 : Int32) / q1)))
set_option maxHeartbeats 4000000 in
set_option maxRecDepth 100000 in
theorem c_X3_lineWeight {l : Launch} {D : va_G} {cy : Nat → ClassId} {ad : Nat → Nat} {base : gBs} {p1 : Int32} {μ : gM} {RES : Int32} (h : f_X3_lineWeight p1 μ = some RES) : Met l yX3_lineWeight [.code yX3_lineWeight cX3_lineWeight 3 (some .int)] ({ frames := 2, cells := 0, slots := 0, locals := 46 } : Room) (va_Pc [.ref (ad 34), .int p1] (gB l gFull D cy ad base μ)) (gQ (some (.int RES)) gFull D cy ad base μ) 0 0 (gA base) := by
  refine Met.ofW (cc := cX3_lineWeight) (maxL := 3) (ret := (some .int)) (by decide) rfl ?_
  intro p e s m args below meth c s₁ B hml0 hv
  obtain ⟨rfl, E, hM⟩ := hv
  have F : gF p s m meth c cX3_lineWeight RX3 3 (some .int) := gF_of B hml0
  obtain ⟨hx, hb, hml, hown, hlocks, hr⟩ := id F
  have hS : va_S (gA base) s.heap s.heap [] := va_S.rf
  have hl := lv_entry ([.ref (ad 34), .int p1]) (n := 3) (Nat.le_of_ble_eq_true rfl)
  rw [lg_entry_eq]
  generalize (lg_sl ([.ref (ad 34), .int p1]) ++ List.replicate (3 - (lg_sl ([.ref (ad 34), .int p1])).length) Slot.unset).toArray = ls at hl ⊢
  have hl : lv_has ls 3 [(0, .ref (ad 34)), (1, .int p1)] := hl
  unfold f_X3_lineWeight at h
  refine lv_aload_n hx hb dX3_lineWeight_0 rfl (lv_at hl 0 rfl) ?_
  refine lv_iload_n hx hb dX3_lineWeight_1 rfl (lv_at hl 1 rfl) ?_
  obtain ⟨q1, hq1, h⟩ := gbind_e h
  refine g_callV (As := [.int p1]) (rest := []) hx hb (hml.trans hl.1.symm) hown E hM hS hy_X3_lineLength kw_138 (c_X3_lineLength hq1) hk_34 dd_34 rfl rfl rfl (Nat.le_of_ble_eq_true rfl) ⟨Nat.le_of_ble_eq_true rfl, Nat.le_of_ble_eq_true rfl⟩ ⟨Nat.le_of_ble_eq_true rfl, Nat.le_of_ble_eq_true rfl⟩ dX3_lineWeight_2 (fun H locs hM hS => ?_)
  refine lv_istore_n (lv' := [(2, .int q1), (0, .ref (ad 34)), (1, .int p1)]) hx hb dX3_lineWeight_5 rfl hl (by decide) rfl (fun ls hl => ?_)
  refine lv_iload_n hx hb dX3_lineWeight_6 rfl (lv_at hl 0 rfl) ?_
  refine lv_if_le (tgt := 17) hx hb dX3_lineWeight_7 (by decide) (fun c2 => ?_) (fun c2 => ?_)
  · replace h := gif_t c2 h
    refine lv_iconst (v := (0 : Int32)) hx hb dX3_lineWeight_17 (by decide) ?_
    obtain rfl := Option.some.inj h
    exact g_iret hx hb hr hlocks hM hS dX3_lineWeight_18
  · replace h := gif_f c2 h
    refine lv_ldc hx hb hown (v := (1000000 : Int32)) (E.kw kw_142) dX3_lineWeight_10 ?_
    refine lv_iload_n hx hb dX3_lineWeight_12 rfl (lv_at hl 0 rfl) ?_
    obtain ⟨c3, h⟩ := gchk_e h
    refine lv_idiv hx hb dX3_lineWeight_13 c3 ?_
    refine lv_goto (tgt := 18) hx hb dX3_lineWeight_14 (by decide) ?_
    obtain rfl := Option.some.inj h
    exact g_iret hx hb hr hlocks hM hS dX3_lineWeight_18
def f_X3_across (p1 : Int32) (p2 : Int32) (p3 : Int32) (μ : gM) : Option (Int32) :=
  if (((p1 >>> (p2 &&& 31)) &&& (1 : Int32)) = 0) then some (-1 : Int32) else gchk (gIn p2 20) (if ((gi μ 40 p2.toNatClampNeg) = p3) then gchk (gIn p2 20) (some (gi μ 41 p2.toNatClampNeg)) else gchk (gIn p2 20) (if ((gi μ 41 p2.toNatClampNeg) = p3) then gchk (gIn p2 20) (some (gi μ 40 p2.toNatClampNeg)) else some (-1 : Int32)))
set_option maxHeartbeats 4000000 in
set_option maxRecDepth 100000 in
theorem c_X3_across {l : Launch} {D : va_G} {cy : Nat → ClassId} {ad : Nat → Nat} {base : gBs} {p1 : Int32} {p2 : Int32} {p3 : Int32} {μ : gM} {RES : Int32} (h : f_X3_across p1 p2 p3 μ = some RES) : Met l yX3_across [.code yX3_across cX3_across 4 (some .int)] ({ frames := 0, cells := 0, slots := 0, locals := 0 } : Room) (va_Pc [.ref (ad 34), .int p1, .int p2, .int p3] (gB l gFull D cy ad base μ)) (gQ (some (.int RES)) gFull D cy ad base μ) 0 0 (gA base) := by
  refine Met.ofW (cc := cX3_across) (maxL := 4) (ret := (some .int)) (by decide) rfl ?_
  intro p e s m args below meth c s₁ B hml0 hv
  obtain ⟨rfl, E, hM⟩ := hv
  have F : gF p s m meth c cX3_across RX3 4 (some .int) := gF_of B hml0
  obtain ⟨hx, hb, hml, hown, hlocks, hr⟩ := id F
  have hS : va_S (gA base) s.heap s.heap [] := va_S.rf
  have hl := lv_entry ([.ref (ad 34), .int p1, .int p2, .int p3]) (n := 4) (Nat.le_of_ble_eq_true rfl)
  rw [lg_entry_eq]
  generalize (lg_sl ([.ref (ad 34), .int p1, .int p2, .int p3]) ++ List.replicate (4 - (lg_sl ([.ref (ad 34), .int p1, .int p2, .int p3])).length) Slot.unset).toArray = ls at hl ⊢
  have hl : lv_has ls 4 [(0, .ref (ad 34)), (1, .int p1), (2, .int p2), (3, .int p3)] := hl
  unfold f_X3_across at h
  refine lv_iload_n hx hb dX3_across_0 rfl (lv_at hl 1 rfl) ?_
  refine lv_iload_n hx hb dX3_across_1 rfl (lv_at hl 2 rfl) ?_
  refine lv_ishr hx hb dX3_across_2 ?_
  refine lv_iconst (v := (1 : Int32)) hx hb dX3_across_3 (by decide) ?_
  refine lv_iand hx hb dX3_across_4 ?_
  refine lv_if_ne (tgt := 10) hx hb dX3_across_5 (by decide) (fun c1 => ?_) (fun c1 => ?_)
  · replace h := gif_f c1 h
    refine lv_aload_n hx hb dX3_across_10 rfl (lv_at hl 0 rfl) ?_
    refine gg_34_10 hx hb hown E hM hk_34 kw_426 dX3_across_11 ?_
    refine lv_iload_n hx hb dX3_across_14 rfl (lv_at hl 2 rfl) ?_
    obtain ⟨c2, h⟩ := gchk_e h
    refine g_iald hx hb E hM hk_40 dd_40 c2 dX3_across_15 ?_
    refine lv_iload_n hx hb dX3_across_16 rfl (lv_at hl 3 rfl) ?_
    refine lv_icmp_ne (tgt := 27) hx hb dX3_across_17 (by decide) (fun c3 => ?_) (fun c3 => ?_)
    · replace h := gif_f c3 h
      refine lv_aload_n hx hb dX3_across_27 rfl (lv_at hl 0 rfl) ?_
      refine gg_34_11 hx hb hown E hM hk_34 kw_432 dX3_across_28 ?_
      refine lv_iload_n hx hb dX3_across_31 rfl (lv_at hl 2 rfl) ?_
      obtain ⟨c4, h⟩ := gchk_e h
      refine g_iald hx hb E hM hk_41 dd_41 c4 dX3_across_32 ?_
      refine lv_iload_n hx hb dX3_across_33 rfl (lv_at hl 3 rfl) ?_
      refine lv_icmp_ne (tgt := 46) hx hb dX3_across_34 (by decide) (fun c5 => ?_) (fun c5 => ?_)
      · replace h := gif_f c5 h
        refine lv_iconst (v := (-1 : Int32)) hx hb dX3_across_46 (by decide) ?_
        obtain rfl := Option.some.inj h
        exact g_iret hx hb hr hlocks hM hS dX3_across_47
      · replace h := gif_t c5 h
        refine lv_aload_n hx hb dX3_across_37 rfl (lv_at hl 0 rfl) ?_
        refine gg_34_10 hx hb hown E hM hk_34 kw_426 dX3_across_38 ?_
        refine lv_iload_n hx hb dX3_across_41 rfl (lv_at hl 2 rfl) ?_
        obtain ⟨c6, h⟩ := gchk_e h
        refine g_iald hx hb E hM hk_40 dd_40 c6 dX3_across_42 ?_
        refine lv_goto (tgt := 47) hx hb dX3_across_43 (by decide) ?_
        obtain rfl := Option.some.inj h
        exact g_iret hx hb hr hlocks hM hS dX3_across_47
    · replace h := gif_t c3 h
      refine lv_aload_n hx hb dX3_across_20 rfl (lv_at hl 0 rfl) ?_
      refine gg_34_11 hx hb hown E hM hk_34 kw_432 dX3_across_21 ?_
      refine lv_iload_n hx hb dX3_across_24 rfl (lv_at hl 2 rfl) ?_
      obtain ⟨c7, h⟩ := gchk_e h
      refine g_iald hx hb E hM hk_41 dd_41 c7 dX3_across_25 ?_
      obtain rfl := Option.some.inj h
      exact g_iret hx hb hr hlocks hM hS dX3_across_26
  · replace h := gif_t c1 h
    refine lv_iconst (v := (-1 : Int32)) hx hb dX3_across_8 (by decide) ?_
    obtain rfl := Option.some.inj h
    exact g_iret hx hb hr hlocks hM hS dX3_across_9
def b_X3b_clear_27 (x1 : Int32) (μ : gM) : Option ((Int32 × gM) ⊕ (gM)) :=
  if ((3 : Int32) ≤ x1) then some (.inr μ) else gchk (gIn x1 3) (gchk (gIn x1 3) (some (.inl ((x1 + (1 : Int32)), (si μ 48 x1.toNatClampNeg (sc 4 x1.toNatClampNeg))))))
set_option maxHeartbeats 4000000 in
set_option maxRecDepth 100000 in
theorem wb_X3b_clear_27 {p : Program} {l : Launch} {e : Env} {s : State} {m : MethodId} {args : Array Value} {below : List Frame} {meth : Method} {c : Code} {D : va_G} {cy : Nat → ClassId} {ad : Nat → Nat} {base : gBs} {x1 : Int32} {μ : gM} {o : (Int32 × gM) ⊕ (gM)} {RES : gM} (h : b_X3b_clear_27 x1 μ = some o) (F : gF p s m meth c cX3_clear RX3 2 none) (E : gEnv l D cy ad base s) (kc : ∀ (t : Int32 × gM) {H : Heap} {locs : List Loc} {ls : Array Slot}, o = .inl t → gW gFull D cy ad base t.2 H → va_S (gA base) s.heap H locs → lv_has ls 2 [(0, .ref (ad 47)), (1, .int t.1)] → W p l e ({ frames := 0, cells := 0, slots := 0, locals := 0 } : Room) s m args below meth c H locs 0 0 (MQ below (gQ none gFull D cy ad base RES) args s 0 0 (gA base)) (F0 m 27 ls [])) (kx : ∀ (t : gM) {H : Heap} {locs : List Loc} {ls : Array Slot}, o = .inr t → gW gFull D cy ad base t H → va_S (gA base) s.heap H locs → lv_has ls 2 [] → W p l e ({ frames := 0, cells := 0, slots := 0, locals := 0 } : Room) s m args below meth c H locs 0 0 (MQ below (gQ none gFull D cy ad base RES) args s 0 0 (gA base)) (F0 m 49 ls []))  {H : Heap} {locs : List Loc} {ls : Array Slot} (hM : gW gFull D cy ad base μ H) (hS : va_S (gA base) s.heap H locs) (hl : lv_has ls 2 [(0, .ref (ad 47)), (1, .int x1)]) : W p l e ({ frames := 0, cells := 0, slots := 0, locals := 0 } : Room) s m args below meth c H locs 0 0 (MQ below (gQ none gFull D cy ad base RES) args s 0 0 (gA base)) (F0 m 27 ls []) := by
  obtain ⟨hx, hb, hml, hown, hlocks, hr⟩ := id F
  unfold b_X3b_clear_27 at h
  refine lv_iload_n hx hb dX3_clear_27 rfl (lv_at hl 1 rfl) ?_
  refine lv_iconst (v := (3 : Int32)) hx hb dX3_clear_28 (by decide) ?_
  refine lv_icmp_ge (tgt := 49) hx hb dX3_clear_29 (by decide) (fun c1 => ?_) (fun c1 => ?_)
  · replace h := gif_t c1 h
    exact kx _ (Option.some.inj h).symm hM hS (lv_sub hl [] rfl)
  · replace h := gif_f c1 h
    refine lv_aload_n hx hb dX3_clear_32 rfl (lv_at hl 0 rfl) ?_
    refine gg_47_5 hx hb hown E hM hk_47 kw_412 dX3_clear_33 ?_
    refine lv_iload_n hx hb dX3_clear_36 rfl (lv_at hl 1 rfl) ?_
    refine g_getsN hx hb hown E hS 4 (by decide) (gSt_4) E.2.2.2.2.1 dX3_clear_37 ?_
    refine lv_iload_n hx hb dX3_clear_40 rfl (lv_at hl 1 rfl) ?_
    obtain ⟨c2, h⟩ := gchk_e h
    refine g_sti hx hb E hS 4 (n := 3) (by decide) rfl rfl c2 dX3_clear_41 ?_
    obtain ⟨c3, h⟩ := gchk_e h
    refine g_iast hx hb E hM hS hk_48 dd_48 c3 dX3_clear_42 (fun H locs hM hS => ?_)
    refine lv_iinc (v := (x1 + (1 : Int32))) (lv' := [(1, .int (x1 + (1 : Int32))), (0, .ref (ad 47))]) hx hb dX3_clear_43 hl (k := 1) rfl rfl (by decide) rfl (fun ls hl => ?_)
    refine lv_goto (tgt := 27) hx hb dX3_clear_46 (by decide) ?_
    exact kc _ (Option.some.inj h).symm hM hS (lv_sub hl [1, 0] rfl)
set_option maxHeartbeats 4000000 in
theorem wl_X3b_clear_27 {p : Program} {l : Launch} {e : Env} {s : State} {m : MethodId} {args : Array Value} {below : List Frame} {meth : Method} {c : Code} {D : va_G} {cy : Nat → ClassId} {ad : Nat → Nat} {base : gBs}  {r : gM} {RES : gM} (F : gF p s m meth c cX3_clear RX3 2 none) (E : gEnv l D cy ad base s) (kx : ∀ (t : gM) {H : Heap} {locs : List Loc} {ls : Array Slot}, r = t → gW gFull D cy ad base t H → va_S (gA base) s.heap H locs → lv_has ls 2 [] → W p l e ({ frames := 0, cells := 0, slots := 0, locals := 0 } : Room) s m args below meth c H locs 0 0 (MQ below (gQ none gFull D cy ad base RES) args s 0 0 (gA base)) (F0 m 49 ls []))  : ∀ (n : Nat) (x1 : Int32) (μ : gM), gloop (fun t => b_X3b_clear_27  t.1 t.2) n (x1, μ) = some r → ∀ {H : Heap} {locs : List Loc} {ls : Array Slot}, gW gFull D cy ad base μ H → va_S (gA base) s.heap H locs → lv_has ls 2 [(0, .ref (ad 47)), (1, .int x1)] → W p l e ({ frames := 0, cells := 0, slots := 0, locals := 0 } : Room) s m args below meth c H locs 0 0 (MQ below (gQ none gFull D cy ad base RES) args s 0 0 (gA base)) (F0 m 27 ls []) := by
  intro n
  induction n with
  | zero =>
    intro x1 μ h
    exact (gloop_0 h).elim
  | succ n ih =>
    intro x1 μ h H locs ls hM hS hl
    obtain ⟨o, h0, hc, hq⟩ := gloop_s h
    have h1 : b_X3b_clear_27 x1 μ = some o := h0
    exact wb_X3b_clear_27 h1 F E (fun t H locs ls ho hM hS hl => ih t.1 t.2 (hc t ho) hM hS hl) (fun t H locs ls ho hM hS hl => kx t (hq _ ho).symm hM hS hl) hM hS hl
def f_X3b_clear (μ : gM) : Option (gM) :=
  Option.bind (gloop (fun t => b_X3b_clear_27  t.1 t.2) gFuel ((0 : Int32), (si (si (si (si (si μ 47 0 (0 : Int32)) 47 1 (0 : Int32)) 47 2 (0 : Int32)) 47 3 (0 : Int32)) 47 4 (0 : Int32)))) (fun q4 => some q4)
set_option maxHeartbeats 4000000 in
set_option maxRecDepth 100000 in
theorem c_X3b_clear {l : Launch} {D : va_G} {cy : Nat → ClassId} {ad : Nat → Nat} {base : gBs}  {μ : gM} {RES : gM} (h : f_X3b_clear  μ = some RES) : Met l yX3_clear [.code yX3_clear cX3_clear 2 none] ({ frames := 0, cells := 0, slots := 0, locals := 0 } : Room) (va_Pc [.ref (ad 47)] (gB l gFull D cy ad base μ)) (gQ none gFull D cy ad base RES) 0 0 (gA base) := by
  refine Met.ofW (cc := cX3_clear) (maxL := 2) (ret := none) (by decide) rfl ?_
  intro p e s m args below meth c s₁ B hml0 hv
  obtain ⟨rfl, E, hM⟩ := hv
  have F : gF p s m meth c cX3_clear RX3 2 none := gF_of B hml0
  obtain ⟨hx, hb, hml, hown, hlocks, hr⟩ := id F
  have hS : va_S (gA base) s.heap s.heap [] := va_S.rf
  have hl := lv_entry ([.ref (ad 47)]) (n := 2) (Nat.le_of_ble_eq_true rfl)
  rw [lg_entry_eq]
  generalize (lg_sl ([.ref (ad 47)]) ++ List.replicate (2 - (lg_sl ([.ref (ad 47)])).length) Slot.unset).toArray = ls at hl ⊢
  have hl : lv_has ls 2 [(0, .ref (ad 47))] := hl
  unfold f_X3b_clear at h
  refine lv_aload_n hx hb dX3_clear_0 rfl (lv_at hl 0 rfl) ?_
  refine lv_iconst (v := (0 : Int32)) hx hb dX3_clear_1 (by decide) ?_
  refine gp_47_0 hx hb hown E hM hS hk_47 kw_389 dX3_clear_2 (fun H locs hM hS => ?_)
  refine lv_aload_n hx hb dX3_clear_5 rfl (lv_at hl 0 rfl) ?_
  refine lv_iconst (v := (0 : Int32)) hx hb dX3_clear_6 (by decide) ?_
  refine gp_47_1 hx hb hown E hM hS hk_47 kw_394 dX3_clear_7 (fun H locs hM hS => ?_)
  refine lv_aload_n hx hb dX3_clear_10 rfl (lv_at hl 0 rfl) ?_
  refine lv_iconst (v := (0 : Int32)) hx hb dX3_clear_11 (by decide) ?_
  refine gp_47_2 hx hb hown E hM hS hk_47 kw_398 dX3_clear_12 (fun H locs hM hS => ?_)
  refine lv_aload_n hx hb dX3_clear_15 rfl (lv_at hl 0 rfl) ?_
  refine lv_iconst (v := (0 : Int32)) hx hb dX3_clear_16 (by decide) ?_
  refine gp_47_3 hx hb hown E hM hS hk_47 kw_405 dX3_clear_17 (fun H locs hM hS => ?_)
  refine lv_aload_n hx hb dX3_clear_20 rfl (lv_at hl 0 rfl) ?_
  refine lv_iconst (v := (0 : Int32)) hx hb dX3_clear_21 (by decide) ?_
  refine gp_47_4 hx hb hown E hM hS hk_47 kw_407 dX3_clear_22 (fun H locs hM hS => ?_)
  refine lv_iconst (v := (0 : Int32)) hx hb dX3_clear_25 (by decide) ?_
  refine lv_istore_n (lv' := [(1, .int (0 : Int32)), (0, .ref (ad 47))]) hx hb dX3_clear_26 rfl hl (by decide) rfl (fun ls hl => ?_)
  obtain ⟨z5, h1, h⟩ := gbind_e h
  refine wl_X3b_clear_27 F E (r := z5) (fun q4 H locs ls e1 hM hS hl => ?_) gFuel (0 : Int32) (si (si (si (si (si μ 47 0 (0 : Int32)) 47 1 (0 : Int32)) 47 2 (0 : Int32)) 47 3 (0 : Int32)) 47 4 (0 : Int32)) h1 hM hS (lv_sub hl [1, 0] rfl)
  replace e1 : z5 = q4 := e1
  rw [e1] at h
  obtain rfl := Option.some.inj h
  exact g_vret hx hb hr hlocks hM hS dX3_clear_49
def b_X3b_findLevel_2 (x1 : Int32) (x2 : Int32) (μ : gM) : Option ((Int32) ⊕ ((Unit) ⊕ (Int32))) :=
  if ((gi μ 47 0) ≤ x2) then some (.inr (.inl ())) else gchk (gIn x2 3) (if ((gi μ 49 x2.toNatClampNeg) = x1) then some (.inr (.inr x2)) else some (.inl (x2 + (1 : Int32))))
set_option maxHeartbeats 4000000 in
set_option maxRecDepth 100000 in
theorem wb_X3b_findLevel_2 {p : Program} {l : Launch} {e : Env} {s : State} {m : MethodId} {args : Array Value} {below : List Frame} {meth : Method} {c : Code} {D : va_G} {cy : Nat → ClassId} {ad : Nat → Nat} {base : gBs} {x1 : Int32} {x2 : Int32} {μ : gM} {o : (Int32) ⊕ ((Unit) ⊕ (Int32))} {RES : Int32} (h : b_X3b_findLevel_2 x1 x2 μ = some o) (F : gF p s m meth c cX3_findLevel RX3 3 (some .int)) (E : gEnv l D cy ad base s) (kc : ∀ (t : Int32) {H : Heap} {locs : List Loc} {ls : Array Slot}, o = .inl t → gW gFull D cy ad base μ H → va_S (gA base) s.heap H locs → lv_has ls 3 [(0, .ref (ad 47)), (1, .int x1), (2, .int t)] → W p l e ({ frames := 0, cells := 0, slots := 0, locals := 0 } : Room) s m args below meth c H locs 0 0 (MQ below (gQ (some (.int RES)) gFull D cy ad base μ) args s 0 0 (gA base)) (F0 m 2 ls [])) (kx : ∀ (t : Unit) {H : Heap} {locs : List Loc} {ls : Array Slot}, o = .inr (.inl t) → gW gFull D cy ad base μ H → va_S (gA base) s.heap H locs → lv_has ls 3 [] → W p l e ({ frames := 0, cells := 0, slots := 0, locals := 0 } : Room) s m args below meth c H locs 0 0 (MQ below (gQ (some (.int RES)) gFull D cy ad base μ) args s 0 0 (gA base)) (F0 m 28 ls [])) (kr : ∀ x : Int32, o = .inr (.inr x) → x = RES) {H : Heap} {locs : List Loc} {ls : Array Slot} (hM : gW gFull D cy ad base μ H) (hS : va_S (gA base) s.heap H locs) (hl : lv_has ls 3 [(0, .ref (ad 47)), (1, .int x1), (2, .int x2)]) : W p l e ({ frames := 0, cells := 0, slots := 0, locals := 0 } : Room) s m args below meth c H locs 0 0 (MQ below (gQ (some (.int RES)) gFull D cy ad base μ) args s 0 0 (gA base)) (F0 m 2 ls []) := by
  obtain ⟨hx, hb, hml, hown, hlocks, hr⟩ := id F
  unfold b_X3b_findLevel_2 at h
  refine lv_iload_n hx hb dX3_findLevel_2 rfl (lv_at hl 2 rfl) ?_
  refine lv_aload_n hx hb dX3_findLevel_3 rfl (lv_at hl 0 rfl) ?_
  refine gg_47_0 hx hb hown E hM hk_47 kw_389 dX3_findLevel_4 ?_
  refine lv_icmp_ge (tgt := 28) hx hb dX3_findLevel_7 (by decide) (fun c1 => ?_) (fun c1 => ?_)
  · replace h := gif_t c1 h
    exact kx _ (Option.some.inj h).symm hM hS (lv_sub hl [] rfl)
  · replace h := gif_f c1 h
    refine lv_aload_n hx hb dX3_findLevel_10 rfl (lv_at hl 0 rfl) ?_
    refine gg_47_6 hx hb hown E hM hk_47 kw_415 dX3_findLevel_11 ?_
    refine lv_iload_n hx hb dX3_findLevel_14 rfl (lv_at hl 2 rfl) ?_
    obtain ⟨c2, h⟩ := gchk_e h
    refine g_iald hx hb E hM hk_49 dd_49 c2 dX3_findLevel_15 ?_
    refine lv_iload_n hx hb dX3_findLevel_16 rfl (lv_at hl 1 rfl) ?_
    refine lv_icmp_ne (tgt := 22) hx hb dX3_findLevel_17 (by decide) (fun c3 => ?_) (fun c3 => ?_)
    · replace h := gif_f c3 h
      refine lv_iinc (v := (x2 + (1 : Int32))) (lv' := [(2, .int (x2 + (1 : Int32))), (0, .ref (ad 47)), (1, .int x1)]) hx hb dX3_findLevel_22 hl (k := 2) rfl rfl (by decide) rfl (fun ls hl => ?_)
      refine lv_goto (tgt := 2) hx hb dX3_findLevel_25 (by decide) ?_
      exact kc _ (Option.some.inj h).symm hM hS (lv_sub hl [1, 2, 0] rfl)
    · replace h := gif_t c3 h
      refine lv_iload_n hx hb dX3_findLevel_20 rfl (lv_at hl 2 rfl) ?_
      obtain rfl := kr _ (Option.some.inj h).symm
      exact g_iret hx hb hr hlocks hM hS dX3_findLevel_21
set_option maxHeartbeats 4000000 in
theorem wl_X3b_findLevel_2 {p : Program} {l : Launch} {e : Env} {s : State} {m : MethodId} {args : Array Value} {below : List Frame} {meth : Method} {c : Code} {D : va_G} {cy : Nat → ClassId} {ad : Nat → Nat} {base : gBs} {x1 : Int32} {μ : gM} {r : (Unit) ⊕ (Int32)} {RES : Int32} (F : gF p s m meth c cX3_findLevel RX3 3 (some .int)) (E : gEnv l D cy ad base s) (kx : ∀ (t : Unit) {H : Heap} {locs : List Loc} {ls : Array Slot}, r = .inl t → gW gFull D cy ad base μ H → va_S (gA base) s.heap H locs → lv_has ls 3 [] → W p l e ({ frames := 0, cells := 0, slots := 0, locals := 0 } : Room) s m args below meth c H locs 0 0 (MQ below (gQ (some (.int RES)) gFull D cy ad base μ) args s 0 0 (gA base)) (F0 m 28 ls [])) (kr : ∀ x : Int32, r = .inr x → x = RES) : ∀ (n : Nat) (x2 : Int32), gloop (fun t => b_X3b_findLevel_2 x1 t μ) n x2 = some r → ∀ {H : Heap} {locs : List Loc} {ls : Array Slot}, gW gFull D cy ad base μ H → va_S (gA base) s.heap H locs → lv_has ls 3 [(0, .ref (ad 47)), (1, .int x1), (2, .int x2)] → W p l e ({ frames := 0, cells := 0, slots := 0, locals := 0 } : Room) s m args below meth c H locs 0 0 (MQ below (gQ (some (.int RES)) gFull D cy ad base μ) args s 0 0 (gA base)) (F0 m 2 ls []) := by
  intro n
  induction n with
  | zero =>
    intro x2 h
    exact (gloop_0 h).elim
  | succ n ih =>
    intro x2 h H locs ls hM hS hl
    obtain ⟨o, h0, hc, hq⟩ := gloop_s h
    have h1 : b_X3b_findLevel_2 x1 x2 μ = some o := h0
    exact wb_X3b_findLevel_2 h1 F E (fun t H locs ls ho hM hS hl => ih t (hc t ho) hM hS hl) (fun t H locs ls ho hM hS hl => kx t (hq _ ho).symm hM hS hl) (fun x ho => kr x (hq _ ho).symm) hM hS hl
def f_X3b_findLevel (p1 : Int32) (μ : gM) : Option (Int32) :=
  Option.bind (gloop (fun t => b_X3b_findLevel_2 p1 t μ) gFuel (0 : Int32)) (fun q4 => Sum.elim (fun t5 => some (-1 : Int32)) (fun x => some x) q4)
set_option maxHeartbeats 4000000 in
set_option maxRecDepth 100000 in
theorem c_X3b_findLevel {l : Launch} {D : va_G} {cy : Nat → ClassId} {ad : Nat → Nat} {base : gBs} {p1 : Int32} {μ : gM} {RES : Int32} (h : f_X3b_findLevel p1 μ = some RES) : Met l yX3_findLevel [.code yX3_findLevel cX3_findLevel 3 (some .int)] ({ frames := 0, cells := 0, slots := 0, locals := 0 } : Room) (va_Pc [.ref (ad 47), .int p1] (gB l gFull D cy ad base μ)) (gQ (some (.int RES)) gFull D cy ad base μ) 0 0 (gA base) := by
  refine Met.ofW (cc := cX3_findLevel) (maxL := 3) (ret := (some .int)) (by decide) rfl ?_
  intro p e s m args below meth c s₁ B hml0 hv
  obtain ⟨rfl, E, hM⟩ := hv
  have F : gF p s m meth c cX3_findLevel RX3 3 (some .int) := gF_of B hml0
  obtain ⟨hx, hb, hml, hown, hlocks, hr⟩ := id F
  have hS : va_S (gA base) s.heap s.heap [] := va_S.rf
  have hl := lv_entry ([.ref (ad 47), .int p1]) (n := 3) (Nat.le_of_ble_eq_true rfl)
  rw [lg_entry_eq]
  generalize (lg_sl ([.ref (ad 47), .int p1]) ++ List.replicate (3 - (lg_sl ([.ref (ad 47), .int p1])).length) Slot.unset).toArray = ls at hl ⊢
  have hl : lv_has ls 3 [(0, .ref (ad 47)), (1, .int p1)] := hl
  unfold f_X3b_findLevel at h
  refine lv_iconst (v := (0 : Int32)) hx hb dX3_findLevel_0 (by decide) ?_
  refine lv_istore_n (lv' := [(2, .int (0 : Int32)), (0, .ref (ad 47)), (1, .int p1)]) hx hb dX3_findLevel_1 rfl hl (by decide) rfl (fun ls hl => ?_)
  obtain ⟨q4, h1, h⟩ := gbind_e h
  refine wl_X3b_findLevel_2 F E (r := q4) (fun t5 H locs ls e1 hM hS hl => ?_) (fun x ex => ?_) gFuel (0 : Int32) h1 hM hS (lv_sub hl [1, 2, 0] rfl)
  · replace h := gsum_l e1 h
    refine lv_iconst (v := (-1 : Int32)) hx hb dX3_findLevel_28 (by decide) ?_
    obtain rfl := Option.some.inj h
    exact g_iret hx hb hr hlocks hM hS dX3_findLevel_29
  · exact Option.some.inj (gsum_r ex h)
def b_X3b_findPoint_2 (x1 : Int32) (x2 : Int32) (μ : gM) : Option ((Int32) ⊕ ((Unit) ⊕ (Int32))) :=
  if ((gi μ 47 1) ≤ x2) then some (.inr (.inl ())) else gchk (gIn x2 16) (if ((gi μ 51 x2.toNatClampNeg) = x1) then some (.inr (.inr x2)) else some (.inl (x2 + (1 : Int32))))
set_option maxHeartbeats 4000000 in
set_option maxRecDepth 100000 in
theorem wb_X3b_findPoint_2 {p : Program} {l : Launch} {e : Env} {s : State} {m : MethodId} {args : Array Value} {below : List Frame} {meth : Method} {c : Code} {D : va_G} {cy : Nat → ClassId} {ad : Nat → Nat} {base : gBs} {x1 : Int32} {x2 : Int32} {μ : gM} {o : (Int32) ⊕ ((Unit) ⊕ (Int32))} {RES : Int32} (h : b_X3b_findPoint_2 x1 x2 μ = some o) (F : gF p s m meth c cX3_findPoint RX3 3 (some .int)) (E : gEnv l D cy ad base s) (kc : ∀ (t : Int32) {H : Heap} {locs : List Loc} {ls : Array Slot}, o = .inl t → gW gFull D cy ad base μ H → va_S (gA base) s.heap H locs → lv_has ls 3 [(0, .ref (ad 47)), (1, .int x1), (2, .int t)] → W p l e ({ frames := 0, cells := 0, slots := 0, locals := 0 } : Room) s m args below meth c H locs 0 0 (MQ below (gQ (some (.int RES)) gFull D cy ad base μ) args s 0 0 (gA base)) (F0 m 2 ls [])) (kx : ∀ (t : Unit) {H : Heap} {locs : List Loc} {ls : Array Slot}, o = .inr (.inl t) → gW gFull D cy ad base μ H → va_S (gA base) s.heap H locs → lv_has ls 3 [] → W p l e ({ frames := 0, cells := 0, slots := 0, locals := 0 } : Room) s m args below meth c H locs 0 0 (MQ below (gQ (some (.int RES)) gFull D cy ad base μ) args s 0 0 (gA base)) (F0 m 28 ls [])) (kr : ∀ x : Int32, o = .inr (.inr x) → x = RES) {H : Heap} {locs : List Loc} {ls : Array Slot} (hM : gW gFull D cy ad base μ H) (hS : va_S (gA base) s.heap H locs) (hl : lv_has ls 3 [(0, .ref (ad 47)), (1, .int x1), (2, .int x2)]) : W p l e ({ frames := 0, cells := 0, slots := 0, locals := 0 } : Room) s m args below meth c H locs 0 0 (MQ below (gQ (some (.int RES)) gFull D cy ad base μ) args s 0 0 (gA base)) (F0 m 2 ls []) := by
  obtain ⟨hx, hb, hml, hown, hlocks, hr⟩ := id F
  unfold b_X3b_findPoint_2 at h
  refine lv_iload_n hx hb dX3_findPoint_2 rfl (lv_at hl 2 rfl) ?_
  refine lv_aload_n hx hb dX3_findPoint_3 rfl (lv_at hl 0 rfl) ?_
  refine gg_47_1 hx hb hown E hM hk_47 kw_394 dX3_findPoint_4 ?_
  refine lv_icmp_ge (tgt := 28) hx hb dX3_findPoint_7 (by decide) (fun c1 => ?_) (fun c1 => ?_)
  · replace h := gif_t c1 h
    exact kx _ (Option.some.inj h).symm hM hS (lv_sub hl [] rfl)
  · replace h := gif_f c1 h
    refine lv_aload_n hx hb dX3_findPoint_10 rfl (lv_at hl 0 rfl) ?_
    refine gg_47_8 hx hb hown E hM hk_47 kw_420 dX3_findPoint_11 ?_
    refine lv_iload_n hx hb dX3_findPoint_14 rfl (lv_at hl 2 rfl) ?_
    obtain ⟨c2, h⟩ := gchk_e h
    refine g_iald hx hb E hM hk_51 dd_51 c2 dX3_findPoint_15 ?_
    refine lv_iload_n hx hb dX3_findPoint_16 rfl (lv_at hl 1 rfl) ?_
    refine lv_icmp_ne (tgt := 22) hx hb dX3_findPoint_17 (by decide) (fun c3 => ?_) (fun c3 => ?_)
    · replace h := gif_f c3 h
      refine lv_iinc (v := (x2 + (1 : Int32))) (lv' := [(2, .int (x2 + (1 : Int32))), (0, .ref (ad 47)), (1, .int x1)]) hx hb dX3_findPoint_22 hl (k := 2) rfl rfl (by decide) rfl (fun ls hl => ?_)
      refine lv_goto (tgt := 2) hx hb dX3_findPoint_25 (by decide) ?_
      exact kc _ (Option.some.inj h).symm hM hS (lv_sub hl [1, 2, 0] rfl)
    · replace h := gif_t c3 h
      refine lv_iload_n hx hb dX3_findPoint_20 rfl (lv_at hl 2 rfl) ?_
      obtain rfl := kr _ (Option.some.inj h).symm
      exact g_iret hx hb hr hlocks hM hS dX3_findPoint_21
set_option maxHeartbeats 4000000 in
theorem wl_X3b_findPoint_2 {p : Program} {l : Launch} {e : Env} {s : State} {m : MethodId} {args : Array Value} {below : List Frame} {meth : Method} {c : Code} {D : va_G} {cy : Nat → ClassId} {ad : Nat → Nat} {base : gBs} {x1 : Int32} {μ : gM} {r : (Unit) ⊕ (Int32)} {RES : Int32} (F : gF p s m meth c cX3_findPoint RX3 3 (some .int)) (E : gEnv l D cy ad base s) (kx : ∀ (t : Unit) {H : Heap} {locs : List Loc} {ls : Array Slot}, r = .inl t → gW gFull D cy ad base μ H → va_S (gA base) s.heap H locs → lv_has ls 3 [] → W p l e ({ frames := 0, cells := 0, slots := 0, locals := 0 } : Room) s m args below meth c H locs 0 0 (MQ below (gQ (some (.int RES)) gFull D cy ad base μ) args s 0 0 (gA base)) (F0 m 28 ls [])) (kr : ∀ x : Int32, r = .inr x → x = RES) : ∀ (n : Nat) (x2 : Int32), gloop (fun t => b_X3b_findPoint_2 x1 t μ) n x2 = some r → ∀ {H : Heap} {locs : List Loc} {ls : Array Slot}, gW gFull D cy ad base μ H → va_S (gA base) s.heap H locs → lv_has ls 3 [(0, .ref (ad 47)), (1, .int x1), (2, .int x2)] → W p l e ({ frames := 0, cells := 0, slots := 0, locals := 0 } : Room) s m args below meth c H locs 0 0 (MQ below (gQ (some (.int RES)) gFull D cy ad base μ) args s 0 0 (gA base)) (F0 m 2 ls []) := by
  intro n
  induction n with
  | zero =>
    intro x2 h
    exact (gloop_0 h).elim
  | succ n ih =>
    intro x2 h H locs ls hM hS hl
    obtain ⟨o, h0, hc, hq⟩ := gloop_s h
    have h1 : b_X3b_findPoint_2 x1 x2 μ = some o := h0
    exact wb_X3b_findPoint_2 h1 F E (fun t H locs ls ho hM hS hl => ih t (hc t ho) hM hS hl) (fun t H locs ls ho hM hS hl => kx t (hq _ ho).symm hM hS hl) (fun x ho => kr x (hq _ ho).symm) hM hS hl
def f_X3b_findPoint (p1 : Int32) (μ : gM) : Option (Int32) :=
  Option.bind (gloop (fun t => b_X3b_findPoint_2 p1 t μ) gFuel (0 : Int32)) (fun q4 => Sum.elim (fun t5 => some (-1 : Int32)) (fun x => some x) q4)
set_option maxHeartbeats 4000000 in
set_option maxRecDepth 100000 in
theorem c_X3b_findPoint {l : Launch} {D : va_G} {cy : Nat → ClassId} {ad : Nat → Nat} {base : gBs} {p1 : Int32} {μ : gM} {RES : Int32} (h : f_X3b_findPoint p1 μ = some RES) : Met l yX3_findPoint [.code yX3_findPoint cX3_findPoint 3 (some .int)] ({ frames := 0, cells := 0, slots := 0, locals := 0 } : Room) (va_Pc [.ref (ad 47), .int p1] (gB l gFull D cy ad base μ)) (gQ (some (.int RES)) gFull D cy ad base μ) 0 0 (gA base) := by
  refine Met.ofW (cc := cX3_findPoint) (maxL := 3) (ret := (some .int)) (by decide) rfl ?_
  intro p e s m args below meth c s₁ B hml0 hv
  obtain ⟨rfl, E, hM⟩ := hv
  have F : gF p s m meth c cX3_findPoint RX3 3 (some .int) := gF_of B hml0
  obtain ⟨hx, hb, hml, hown, hlocks, hr⟩ := id F
  have hS : va_S (gA base) s.heap s.heap [] := va_S.rf
  have hl := lv_entry ([.ref (ad 47), .int p1]) (n := 3) (Nat.le_of_ble_eq_true rfl)
  rw [lg_entry_eq]
  generalize (lg_sl ([.ref (ad 47), .int p1]) ++ List.replicate (3 - (lg_sl ([.ref (ad 47), .int p1])).length) Slot.unset).toArray = ls at hl ⊢
  have hl : lv_has ls 3 [(0, .ref (ad 47)), (1, .int p1)] := hl
  unfold f_X3b_findPoint at h
  refine lv_iconst (v := (0 : Int32)) hx hb dX3_findPoint_0 (by decide) ?_
  refine lv_istore_n (lv' := [(2, .int (0 : Int32)), (0, .ref (ad 47)), (1, .int p1)]) hx hb dX3_findPoint_1 rfl hl (by decide) rfl (fun ls hl => ?_)
  obtain ⟨q4, h1, h⟩ := gbind_e h
  refine wl_X3b_findPoint_2 F E (r := q4) (fun t5 H locs ls e1 hM hS hl => ?_) (fun x ex => ?_) gFuel (0 : Int32) h1 hM hS (lv_sub hl [1, 2, 0] rfl)
  · replace h := gsum_l e1 h
    refine lv_iconst (v := (-1 : Int32)) hx hb dX3_findPoint_28 (by decide) ?_
    obtain rfl := Option.some.inj h
    exact g_iret hx hb hr hlocks hM hS dX3_findPoint_29
  · exact Option.some.inj (gsum_r ex h)
def f_X3b_place (p1 : Int32) (p2 : Int32) (μ : gM) : Option (Int32) :=
  some (((p1 * (8 : Int32)) + p2) * (4 : Int32))
set_option maxHeartbeats 4000000 in
set_option maxRecDepth 100000 in
theorem c_X3b_place {l : Launch} {D : va_G} {cy : Nat → ClassId} {ad : Nat → Nat} {base : gBs} {p1 : Int32} {p2 : Int32} {μ : gM} {RES : Int32} (h : f_X3b_place p1 p2 μ = some RES) : Met l yX3_place [.code yX3_place cX3_place 3 (some .int)] ({ frames := 0, cells := 0, slots := 0, locals := 0 } : Room) (va_Pc [.ref (ad 47), .int p1, .int p2] (gB l gFull D cy ad base μ)) (gQ (some (.int RES)) gFull D cy ad base μ) 0 0 (gA base) := by
  refine Met.ofW (cc := cX3_place) (maxL := 3) (ret := (some .int)) (by decide) rfl ?_
  intro p e s m args below meth c s₁ B hml0 hv
  obtain ⟨rfl, E, hM⟩ := hv
  have F : gF p s m meth c cX3_place RX3 3 (some .int) := gF_of B hml0
  obtain ⟨hx, hb, hml, hown, hlocks, hr⟩ := id F
  have hS : va_S (gA base) s.heap s.heap [] := va_S.rf
  have hl := lv_entry ([.ref (ad 47), .int p1, .int p2]) (n := 3) (Nat.le_of_ble_eq_true rfl)
  rw [lg_entry_eq]
  generalize (lg_sl ([.ref (ad 47), .int p1, .int p2]) ++ List.replicate (3 - (lg_sl ([.ref (ad 47), .int p1, .int p2])).length) Slot.unset).toArray = ls at hl ⊢
  have hl : lv_has ls 3 [(0, .ref (ad 47)), (1, .int p1), (2, .int p2)] := hl
  unfold f_X3b_place at h
  refine lv_iload_n hx hb dX3_place_0 rfl (lv_at hl 1 rfl) ?_
  refine lv_bipush (v := (8 : Int32)) hx hb dX3_place_1 (by decide) ?_
  refine lv_imul hx hb dX3_place_3 ?_
  refine lv_iload_n hx hb dX3_place_4 rfl (lv_at hl 2 rfl) ?_
  refine lv_iadd hx hb dX3_place_5 ?_
  refine lv_iconst (v := (4 : Int32)) hx hb dX3_place_6 (by decide) ?_
  refine lv_imul hx hb dX3_place_7 ?_
  obtain rfl := Option.some.inj h
  exact g_iret hx hb hr hlocks hM hS dX3_place_8
