theorem dX7_feed_0 : decode cX7_feed 0 = .ok (.aload_n 0, 1) := by decide +kernel
theorem dX7_feed_1 : decode cX7_feed 1 = .ok (.getfield 14, 3) := by decide +kernel
theorem dX7_feed_4 : decode cX7_feed 4 = .ok (.getfield 62, 3) := by decide +kernel
theorem dX7_feed_7 : decode cX7_feed 7 = .ok (.bipush 20, 2) := by decide +kernel
theorem dX7_feed_9 : decode cX7_feed 9 = .ok (.iadd, 1) := by decide +kernel
theorem dX7_feed_10 : decode cX7_feed 10 = .ok (.sipush 1200, 3) := by decide +kernel
theorem dX7_feed_13 : decode cX7_feed 13 = .ok (.if_icmp .le 6, 3) := by decide +kernel
theorem dX7_feed_16 : decode cX7_feed 16 = .ok (.bipush (-3), 2) := by decide +kernel
theorem dX7_feed_18 : decode cX7_feed 18 = .ok (.ireturn, 1) := by decide +kernel
theorem dX7_feed_19 : decode cX7_feed 19 = .ok (.aload_n 0, 1) := by decide +kernel
theorem dX7_feed_20 : decode cX7_feed 20 = .ok (.getfield 14, 3) := by decide +kernel
theorem dX7_feed_23 : decode cX7_feed 23 = .ok (.iload_n 1, 1) := by decide +kernel
theorem dX7_feed_24 : decode cX7_feed 24 = .ok (.invokevirtual 65, 3) := by decide +kernel
theorem dX7_feed_27 : decode cX7_feed 27 = .ok (.aload_n 0, 1) := by decide +kernel
theorem dX7_feed_28 : decode cX7_feed 28 = .ok (.getfield 14, 3) := by decide +kernel
theorem dX7_feed_31 : decode cX7_feed 31 = .ok (.iload_n 2, 1) := by decide +kernel
theorem dX7_feed_32 : decode cX7_feed 32 = .ok (.invokevirtual 65, 3) := by decide +kernel
theorem dX7_feed_35 : decode cX7_feed 35 = .ok (.aload_n 0, 1) := by decide +kernel
theorem dX7_feed_36 : decode cX7_feed 36 = .ok (.getfield 14, 3) := by decide +kernel
theorem dX7_feed_39 : decode cX7_feed 39 = .ok (.iload_n 3, 1) := by decide +kernel
theorem dX7_feed_40 : decode cX7_feed 40 = .ok (.invokevirtual 65, 3) := by decide +kernel
theorem dX7_feed_43 : decode cX7_feed 43 = .ok (.aload_n 0, 1) := by decide +kernel
theorem dX7_feed_44 : decode cX7_feed 44 = .ok (.getfield 14, 3) := by decide +kernel
theorem dX7_feed_47 : decode cX7_feed 47 = .ok (.iload 4, 2) := by decide +kernel
theorem dX7_feed_49 : decode cX7_feed 49 = .ok (.invokevirtual 65, 3) := by decide +kernel
theorem dX7_feed_52 : decode cX7_feed 52 = .ok (.aload_n 0, 1) := by decide +kernel
theorem dX7_feed_53 : decode cX7_feed 53 = .ok (.getfield 14, 3) := by decide +kernel
theorem dX7_feed_56 : decode cX7_feed 56 = .ok (.iload 5, 2) := by decide +kernel
theorem dX7_feed_58 : decode cX7_feed 58 = .ok (.invokevirtual 65, 3) := by decide +kernel
theorem dX7_feed_61 : decode cX7_feed 61 = .ok (.aload_n 0, 1) := by decide +kernel
theorem dX7_feed_62 : decode cX7_feed 62 = .ok (.getfield 14, 3) := by decide +kernel
theorem dX7_feed_65 : decode cX7_feed 65 = .ok (.getfield 62, 3) := by decide +kernel
theorem dX7_feed_68 : decode cX7_feed 68 = .ok (.ireturn, 1) := by decide +kernel
theorem dX7_needIndex_0 : decode cX7_needIndex 0 = .ok (.iload_n 0, 1) := by decide +kernel
theorem dX7_needIndex_1 : decode cX7_needIndex 1 = .ok (.iload_n 1, 1) := by decide +kernel
theorem dX7_needIndex_2 : decode cX7_needIndex 2 = .ok (.invokestatic 102, 3) := by decide +kernel
theorem dX7_needIndex_5 : decode cX7_needIndex 5 = .ok (.ifCond .ne 14, 3) := by decide +kernel
theorem dX7_needIndex_8 : decode cX7_needIndex 8 = .ok (.new 328, 3) := by decide +kernel
theorem dX7_needIndex_11 : decode cX7_needIndex 11 = .ok (.dup, 1) := by decide +kernel
theorem dX7_needIndex_12 : decode cX7_needIndex 12 = .ok (.ldc_w 330, 3) := by decide +kernel
theorem dX7_needIndex_15 : decode cX7_needIndex 15 = .ok (.invokespecial 332, 3) := by decide +kernel
theorem dX7_needIndex_18 : decode cX7_needIndex 18 = .ok (.athrow, 1) := by decide +kernel
theorem dX7_needIndex_19 : decode cX7_needIndex 19 = .ok (.return_, 1) := by decide +kernel
theorem dX7_heldAt_0 : decode cX7_heldAt 0 = .ok (.iload_n 1, 1) := by decide +kernel
theorem dX7_heldAt_1 : decode cX7_heldAt 1 = .ok (.aload_n 0, 1) := by decide +kernel
theorem dX7_heldAt_2 : decode cX7_heldAt 2 = .ok (.getfield 51, 3) := by decide +kernel
theorem dX7_heldAt_5 : decode cX7_heldAt 5 = .ok (.getfield 86, 3) := by decide +kernel
theorem dX7_heldAt_8 : decode cX7_heldAt 8 = .ok (.invokestatic 110, 3) := by decide +kernel
theorem dX7_heldAt_11 : decode cX7_heldAt 11 = .ok (.aload_n 0, 1) := by decide +kernel
theorem dX7_heldAt_12 : decode cX7_heldAt 12 = .ok (.getfield 51, 3) := by decide +kernel
theorem dX7_heldAt_15 : decode cX7_heldAt 15 = .ok (.getfield 127, 3) := by decide +kernel
theorem dX7_heldAt_18 : decode cX7_heldAt 18 = .ok (.iload_n 1, 1) := by decide +kernel
theorem dX7_heldAt_19 : decode cX7_heldAt 19 = .ok (.iaload, 1) := by decide +kernel
theorem dX7_heldAt_20 : decode cX7_heldAt 20 = .ok (.ireturn, 1) := by decide +kernel
theorem dX7_lineProperty_0 : decode cX7_lineProperty 0 = .ok (.iload_n 1, 1) := by decide +kernel
theorem dX7_lineProperty_1 : decode cX7_lineProperty 1 = .ok (.aload_n 0, 1) := by decide +kernel
theorem dX7_lineProperty_2 : decode cX7_lineProperty 2 = .ok (.getfield 51, 3) := by decide +kernel
theorem dX7_lineProperty_5 : decode cX7_lineProperty 5 = .ok (.getfield 89, 3) := by decide +kernel
theorem dX7_lineProperty_8 : decode cX7_lineProperty 8 = .ok (.invokestatic 110, 3) := by decide +kernel
theorem dX7_lineProperty_11 : decode cX7_lineProperty 11 = .ok (.iload_n 2, 1) := by decide +kernel
theorem dX7_lineProperty_12 : decode cX7_lineProperty 12 = .ok (.tableswitch 119 0 6 #[44, 54, 64, 74, 84, 101, 110], 44) := by decide +kernel
theorem dX7_lineProperty_56 : decode cX7_lineProperty 56 = .ok (.aload_n 0, 1) := by decide +kernel
theorem dX7_lineProperty_57 : decode cX7_lineProperty 57 = .ok (.getfield 51, 3) := by decide +kernel
theorem dX7_lineProperty_60 : decode cX7_lineProperty 60 = .ok (.getfield 130, 3) := by decide +kernel
theorem dX7_lineProperty_63 : decode cX7_lineProperty 63 = .ok (.iload_n 1, 1) := by decide +kernel
theorem dX7_lineProperty_64 : decode cX7_lineProperty 64 = .ok (.iaload, 1) := by decide +kernel
theorem dX7_lineProperty_65 : decode cX7_lineProperty 65 = .ok (.ireturn, 1) := by decide +kernel
theorem dX7_lineProperty_66 : decode cX7_lineProperty 66 = .ok (.aload_n 0, 1) := by decide +kernel
theorem dX7_lineProperty_67 : decode cX7_lineProperty 67 = .ok (.getfield 51, 3) := by decide +kernel
theorem dX7_lineProperty_70 : decode cX7_lineProperty 70 = .ok (.getfield 133, 3) := by decide +kernel
theorem dX7_lineProperty_73 : decode cX7_lineProperty 73 = .ok (.iload_n 1, 1) := by decide +kernel
theorem dX7_lineProperty_74 : decode cX7_lineProperty 74 = .ok (.iaload, 1) := by decide +kernel
theorem dX7_lineProperty_75 : decode cX7_lineProperty 75 = .ok (.ireturn, 1) := by decide +kernel
theorem dX7_lineProperty_76 : decode cX7_lineProperty 76 = .ok (.aload_n 0, 1) := by decide +kernel
theorem dX7_lineProperty_77 : decode cX7_lineProperty 77 = .ok (.getfield 51, 3) := by decide +kernel
theorem dX7_lineProperty_80 : decode cX7_lineProperty 80 = .ok (.getfield 136, 3) := by decide +kernel
theorem dX7_lineProperty_83 : decode cX7_lineProperty 83 = .ok (.iload_n 1, 1) := by decide +kernel
theorem dX7_lineProperty_84 : decode cX7_lineProperty 84 = .ok (.iaload, 1) := by decide +kernel
theorem dX7_lineProperty_85 : decode cX7_lineProperty 85 = .ok (.ireturn, 1) := by decide +kernel
theorem dX7_lineProperty_86 : decode cX7_lineProperty 86 = .ok (.aload_n 0, 1) := by decide +kernel
theorem dX7_lineProperty_87 : decode cX7_lineProperty 87 = .ok (.getfield 51, 3) := by decide +kernel
theorem dX7_lineProperty_90 : decode cX7_lineProperty 90 = .ok (.getfield 139, 3) := by decide +kernel
theorem dX7_lineProperty_93 : decode cX7_lineProperty 93 = .ok (.iload_n 1, 1) := by decide +kernel
theorem dX7_lineProperty_94 : decode cX7_lineProperty 94 = .ok (.iaload, 1) := by decide +kernel
theorem dX7_lineProperty_95 : decode cX7_lineProperty 95 = .ok (.ireturn, 1) := by decide +kernel
theorem dX7_lineProperty_96 : decode cX7_lineProperty 96 = .ok (.aload_n 0, 1) := by decide +kernel
theorem dX7_lineProperty_97 : decode cX7_lineProperty 97 = .ok (.getfield 51, 3) := by decide +kernel
theorem dX7_lineProperty_100 : decode cX7_lineProperty 100 = .ok (.iload_n 1, 1) := by decide +kernel
theorem dX7_lineProperty_101 : decode cX7_lineProperty 101 = .ok (.invokevirtual 142, 3) := by decide +kernel
theorem dX7_lineProperty_104 : decode cX7_lineProperty 104 = .ok (.ifCond .eq 7, 3) := by decide +kernel
theorem dX7_lineProperty_107 : decode cX7_lineProperty 107 = .ok (.iconst 1, 1) := by decide +kernel
theorem dX7_lineProperty_108 : decode cX7_lineProperty 108 = .ok (.goto 4, 3) := by decide +kernel
theorem dX7_lineProperty_111 : decode cX7_lineProperty 111 = .ok (.iconst 0, 1) := by decide +kernel
theorem dX7_lineProperty_112 : decode cX7_lineProperty 112 = .ok (.ireturn, 1) := by decide +kernel
theorem dX7_lineProperty_113 : decode cX7_lineProperty 113 = .ok (.aload_n 0, 1) := by decide +kernel
theorem dX7_lineProperty_114 : decode cX7_lineProperty 114 = .ok (.getfield 51, 3) := by decide +kernel
theorem dX7_lineProperty_117 : decode cX7_lineProperty 117 = .ok (.iload_n 1, 1) := by decide +kernel
theorem dX7_lineProperty_118 : decode cX7_lineProperty 118 = .ok (.invokevirtual 146, 3) := by decide +kernel
theorem dX7_lineProperty_121 : decode cX7_lineProperty 121 = .ok (.ireturn, 1) := by decide +kernel
theorem dX7_lineProperty_122 : decode cX7_lineProperty 122 = .ok (.aload_n 0, 1) := by decide +kernel
theorem dX7_lineProperty_123 : decode cX7_lineProperty 123 = .ok (.getfield 51, 3) := by decide +kernel
theorem dX7_lineProperty_126 : decode cX7_lineProperty 126 = .ok (.iload_n 1, 1) := by decide +kernel
theorem dX7_lineProperty_127 : decode cX7_lineProperty 127 = .ok (.invokevirtual 149, 3) := by decide +kernel
theorem dX7_lineProperty_130 : decode cX7_lineProperty 130 = .ok (.ireturn, 1) := by decide +kernel
theorem dX7_lineProperty_131 : decode cX7_lineProperty 131 = .ok (.bipush (-2), 2) := by decide +kernel
theorem dX7_lineProperty_133 : decode cX7_lineProperty 133 = .ok (.ireturn, 1) := by decide +kernel
theorem dX7_stepOf_0 : decode cX7_stepOf 0 = .ok (.iload_n 1, 1) := by decide +kernel
theorem dX7_stepOf_1 : decode cX7_stepOf 1 = .ok (.aload_n 0, 1) := by decide +kernel
theorem dX7_stepOf_2 : decode cX7_stepOf 2 = .ok (.getfield 51, 3) := by decide +kernel
theorem dX7_stepOf_5 : decode cX7_stepOf 5 = .ok (.getfield 89, 3) := by decide +kernel
theorem dX7_stepOf_8 : decode cX7_stepOf 8 = .ok (.invokestatic 110, 3) := by decide +kernel
theorem dX7_stepOf_11 : decode cX7_stepOf 11 = .ok (.aload_n 0, 1) := by decide +kernel
theorem dX7_stepOf_12 : decode cX7_stepOf 12 = .ok (.getfield 51, 3) := by decide +kernel
theorem dX7_stepOf_15 : decode cX7_stepOf 15 = .ok (.iload_n 1, 1) := by decide +kernel
theorem dX7_stepOf_16 : decode cX7_stepOf 16 = .ok (.iload_n 2, 1) := by decide +kernel
theorem dX7_stepOf_17 : decode cX7_stepOf 17 = .ok (.invokevirtual 152, 3) := by decide +kernel
theorem dX7_stepOf_20 : decode cX7_stepOf 20 = .ok (.ifCond .ne 6, 3) := by decide +kernel
theorem dX7_stepOf_23 : decode cX7_stepOf 23 = .ok (.ldc 126, 2) := by decide +kernel
theorem dX7_stepOf_25 : decode cX7_stepOf 25 = .ok (.ireturn, 1) := by decide +kernel
theorem dX7_stepOf_26 : decode cX7_stepOf 26 = .ok (.aload_n 0, 1) := by decide +kernel
theorem dX7_stepOf_27 : decode cX7_stepOf 27 = .ok (.getfield 51, 3) := by decide +kernel
theorem dX7_stepOf_30 : decode cX7_stepOf 30 = .ok (.iload_n 1, 1) := by decide +kernel
theorem dX7_stepOf_31 : decode cX7_stepOf 31 = .ok (.iload_n 2, 1) := by decide +kernel
theorem dX7_stepOf_32 : decode cX7_stepOf 32 = .ok (.invokevirtual 162, 3) := by decide +kernel
theorem dX7_stepOf_35 : decode cX7_stepOf 35 = .ok (.ireturn, 1) := by decide +kernel
theorem dX7_riseOf_0 : decode cX7_riseOf 0 = .ok (.iload_n 1, 1) := by decide +kernel
theorem dX7_riseOf_1 : decode cX7_riseOf 1 = .ok (.aload_n 0, 1) := by decide +kernel
theorem dX7_riseOf_2 : decode cX7_riseOf 2 = .ok (.getfield 51, 3) := by decide +kernel
theorem dX7_riseOf_5 : decode cX7_riseOf 5 = .ok (.getfield 89, 3) := by decide +kernel
theorem dX7_riseOf_8 : decode cX7_riseOf 8 = .ok (.invokestatic 110, 3) := by decide +kernel
theorem dX7_riseOf_11 : decode cX7_riseOf 11 = .ok (.aload_n 0, 1) := by decide +kernel
theorem dX7_riseOf_12 : decode cX7_riseOf 12 = .ok (.getfield 51, 3) := by decide +kernel
theorem dX7_riseOf_15 : decode cX7_riseOf 15 = .ok (.iload_n 1, 1) := by decide +kernel
theorem dX7_riseOf_16 : decode cX7_riseOf 16 = .ok (.invokevirtual 165, 3) := by decide +kernel
theorem dX7_riseOf_19 : decode cX7_riseOf 19 = .ok (.ireturn, 1) := by decide +kernel
theorem dX7_rootOf_0 : decode cX7_rootOf 0 = .ok (.iload_n 1, 1) := by decide +kernel
theorem dX7_rootOf_1 : decode cX7_rootOf 1 = .ok (.aload_n 0, 1) := by decide +kernel
theorem dX7_rootOf_2 : decode cX7_rootOf 2 = .ok (.getfield 51, 3) := by decide +kernel
theorem dX7_rootOf_5 : decode cX7_rootOf 5 = .ok (.getfield 86, 3) := by decide +kernel
theorem dX7_rootOf_8 : decode cX7_rootOf 8 = .ok (.invokestatic 110, 3) := by decide +kernel
theorem dX7_rootOf_11 : decode cX7_rootOf 11 = .ok (.aload_n 0, 1) := by decide +kernel
theorem dX7_rootOf_12 : decode cX7_rootOf 12 = .ok (.getfield 30, 3) := by decide +kernel
theorem dX7_rootOf_15 : decode cX7_rootOf 15 = .ok (.getfield 202, 3) := by decide +kernel
theorem dX7_rootOf_18 : decode cX7_rootOf 18 = .ok (.aload_n 0, 1) := by decide +kernel
theorem dX7_rootOf_19 : decode cX7_rootOf 19 = .ok (.getfield 51, 3) := by decide +kernel
theorem dX7_rootOf_22 : decode cX7_rootOf 22 = .ok (.aload_n 0, 1) := by decide +kernel
theorem dX7_rootOf_23 : decode cX7_rootOf 23 = .ok (.getfield 51, 3) := by decide +kernel
theorem dX7_rootOf_26 : decode cX7_rootOf 26 = .ok (.getfield 195, 3) := by decide +kernel
theorem dX7_rootOf_29 : decode cX7_rootOf 29 = .ok (.invokevirtual 206, 3) := by decide +kernel
theorem dX7_rootOf_32 : decode cX7_rootOf 32 = .ok (.aload_n 0, 1) := by decide +kernel
theorem dX7_rootOf_33 : decode cX7_rootOf 33 = .ok (.getfield 30, 3) := by decide +kernel
theorem dX7_rootOf_36 : decode cX7_rootOf 36 = .ok (.getfield 202, 3) := by decide +kernel
theorem dX7_rootOf_39 : decode cX7_rootOf 39 = .ok (.getfield 212, 3) := by decide +kernel
theorem dX7_rootOf_42 : decode cX7_rootOf 42 = .ok (.iload_n 1, 1) := by decide +kernel
theorem dX7_rootOf_43 : decode cX7_rootOf 43 = .ok (.iaload, 1) := by decide +kernel
theorem dX7_rootOf_44 : decode cX7_rootOf 44 = .ok (.ireturn, 1) := by decide +kernel
theorem dX7_partCount_0 : decode cX7_partCount 0 = .ok (.aload_n 0, 1) := by decide +kernel
theorem dX7_partCount_1 : decode cX7_partCount 1 = .ok (.getfield 30, 3) := by decide +kernel
theorem dX7_partCount_4 : decode cX7_partCount 4 = .ok (.getfield 202, 3) := by decide +kernel
theorem dX7_partCount_7 : decode cX7_partCount 7 = .ok (.aload_n 0, 1) := by decide +kernel
theorem dX7_partCount_8 : decode cX7_partCount 8 = .ok (.getfield 51, 3) := by decide +kernel
theorem dX7_partCount_11 : decode cX7_partCount 11 = .ok (.aload_n 0, 1) := by decide +kernel
theorem dX7_partCount_12 : decode cX7_partCount 12 = .ok (.getfield 51, 3) := by decide +kernel
theorem dX7_partCount_15 : decode cX7_partCount 15 = .ok (.getfield 195, 3) := by decide +kernel
theorem dX7_partCount_18 : decode cX7_partCount 18 = .ok (.invokevirtual 206, 3) := by decide +kernel
theorem dX7_partCount_21 : decode cX7_partCount 21 = .ok (.aload_n 0, 1) := by decide +kernel
theorem dX7_partCount_22 : decode cX7_partCount 22 = .ok (.getfield 30, 3) := by decide +kernel
theorem dX7_partCount_25 : decode cX7_partCount 25 = .ok (.getfield 202, 3) := by decide +kernel
theorem dX7_partCount_28 : decode cX7_partCount 28 = .ok (.getfield 215, 3) := by decide +kernel
theorem dX7_partCount_31 : decode cX7_partCount 31 = .ok (.ireturn, 1) := by decide +kernel
theorem dX7_distance_0 : decode cX7_distance 0 = .ok (.iload_n 1, 1) := by decide +kernel
theorem dX7_distance_1 : decode cX7_distance 1 = .ok (.aload_n 0, 1) := by decide +kernel
theorem dX7_distance_2 : decode cX7_distance 2 = .ok (.getfield 51, 3) := by decide +kernel
theorem dX7_distance_5 : decode cX7_distance 5 = .ok (.getfield 86, 3) := by decide +kernel
theorem dX7_distance_8 : decode cX7_distance 8 = .ok (.invokestatic 110, 3) := by decide +kernel
theorem dX7_distance_11 : decode cX7_distance 11 = .ok (.iload_n 2, 1) := by decide +kernel
theorem dX7_distance_12 : decode cX7_distance 12 = .ok (.aload_n 0, 1) := by decide +kernel
theorem dX7_distance_13 : decode cX7_distance 13 = .ok (.getfield 51, 3) := by decide +kernel
theorem dX7_distance_16 : decode cX7_distance 16 = .ok (.getfield 86, 3) := by decide +kernel
theorem dX7_distance_19 : decode cX7_distance 19 = .ok (.invokestatic 110, 3) := by decide +kernel
theorem dX7_distance_22 : decode cX7_distance 22 = .ok (.aload_n 0, 1) := by decide +kernel
theorem dX7_distance_23 : decode cX7_distance 23 = .ok (.getfield 23, 3) := by decide +kernel
theorem dX7_distance_26 : decode cX7_distance 26 = .ok (.aload_n 0, 1) := by decide +kernel
theorem dX7_distance_27 : decode cX7_distance 27 = .ok (.getfield 51, 3) := by decide +kernel
theorem dX7_distance_30 : decode cX7_distance 30 = .ok (.iload_n 1, 1) := by decide +kernel
theorem dX7_distance_31 : decode cX7_distance 31 = .ok (.invokevirtual 218, 3) := by decide +kernel
theorem dX7_distance_34 : decode cX7_distance 34 = .ok (.aload_n 0, 1) := by decide +kernel
theorem dX7_distance_35 : decode cX7_distance 35 = .ok (.getfield 23, 3) := by decide +kernel
theorem dX7_distance_38 : decode cX7_distance 38 = .ok (.getfield 221, 3) := by decide +kernel
theorem dX7_distance_41 : decode cX7_distance 41 = .ok (.iload_n 2, 1) := by decide +kernel
theorem dX7_distance_42 : decode cX7_distance 42 = .ok (.iaload, 1) := by decide +kernel
theorem dX7_distance_43 : decode cX7_distance 43 = .ok (.ireturn, 1) := by decide +kernel
theorem dX7_riseBetween_0 : decode cX7_riseBetween 0 = .ok (.iload_n 1, 1) := by decide +kernel
theorem dX7_riseBetween_1 : decode cX7_riseBetween 1 = .ok (.aload_n 0, 1) := by decide +kernel
theorem dX7_riseBetween_2 : decode cX7_riseBetween 2 = .ok (.getfield 51, 3) := by decide +kernel
theorem dX7_riseBetween_5 : decode cX7_riseBetween 5 = .ok (.getfield 86, 3) := by decide +kernel
theorem dX7_riseBetween_8 : decode cX7_riseBetween 8 = .ok (.invokestatic 110, 3) := by decide +kernel
theorem dX7_riseBetween_11 : decode cX7_riseBetween 11 = .ok (.iload_n 2, 1) := by decide +kernel
theorem dX7_riseBetween_12 : decode cX7_riseBetween 12 = .ok (.aload_n 0, 1) := by decide +kernel
theorem dX7_riseBetween_13 : decode cX7_riseBetween 13 = .ok (.getfield 51, 3) := by decide +kernel
theorem dX7_riseBetween_16 : decode cX7_riseBetween 16 = .ok (.getfield 86, 3) := by decide +kernel
theorem dX7_riseBetween_19 : decode cX7_riseBetween 19 = .ok (.invokestatic 110, 3) := by decide +kernel
theorem dX7_riseBetween_22 : decode cX7_riseBetween 22 = .ok (.aload_n 0, 1) := by decide +kernel
theorem dX7_riseBetween_23 : decode cX7_riseBetween 23 = .ok (.getfield 23, 3) := by decide +kernel
theorem dX7_riseBetween_26 : decode cX7_riseBetween 26 = .ok (.aload_n 0, 1) := by decide +kernel
theorem dX7_riseBetween_27 : decode cX7_riseBetween 27 = .ok (.getfield 51, 3) := by decide +kernel
theorem dX7_riseBetween_30 : decode cX7_riseBetween 30 = .ok (.iload_n 1, 1) := by decide +kernel
theorem dX7_riseBetween_31 : decode cX7_riseBetween 31 = .ok (.iload_n 2, 1) := by decide +kernel
theorem dX7_riseBetween_32 : decode cX7_riseBetween 32 = .ok (.invokevirtual 224, 3) := by decide +kernel
theorem dX7_riseBetween_35 : decode cX7_riseBetween 35 = .ok (.aload_n 0, 1) := by decide +kernel
theorem dX7_riseBetween_36 : decode cX7_riseBetween 36 = .ok (.getfield 23, 3) := by decide +kernel
theorem dX7_riseBetween_39 : decode cX7_riseBetween 39 = .ok (.getfield 221, 3) := by decide +kernel
theorem dX7_riseBetween_42 : decode cX7_riseBetween 42 = .ok (.iload_n 2, 1) := by decide +kernel
theorem dX7_riseBetween_43 : decode cX7_riseBetween 43 = .ok (.iaload, 1) := by decide +kernel
theorem dX7_riseBetween_44 : decode cX7_riseBetween 44 = .ok (.iconst (-1), 1) := by decide +kernel
theorem dX7_riseBetween_45 : decode cX7_riseBetween 45 = .ok (.if_icmp .ne 8, 3) := by decide +kernel
theorem dX7_riseBetween_48 : decode cX7_riseBetween 48 = .ok (.ldc 126, 2) := by decide +kernel
theorem dX7_riseBetween_50 : decode cX7_riseBetween 50 = .ok (.goto 10, 3) := by decide +kernel
theorem dX7_riseBetween_53 : decode cX7_riseBetween 53 = .ok (.aload_n 0, 1) := by decide +kernel
theorem dX7_riseBetween_54 : decode cX7_riseBetween 54 = .ok (.getfield 23, 3) := by decide +kernel
theorem dX7_riseBetween_57 : decode cX7_riseBetween 57 = .ok (.getfield 228, 3) := by decide +kernel
theorem dX7_riseBetween_60 : decode cX7_riseBetween 60 = .ok (.ireturn, 1) := by decide +kernel
theorem dX7_wayBetween_0 : decode cX7_wayBetween 0 = .ok (.iload_n 1, 1) := by decide +kernel
theorem dX7_wayBetween_1 : decode cX7_wayBetween 1 = .ok (.aload_n 0, 1) := by decide +kernel
theorem dX7_wayBetween_2 : decode cX7_wayBetween 2 = .ok (.getfield 51, 3) := by decide +kernel
theorem dX7_wayBetween_5 : decode cX7_wayBetween 5 = .ok (.getfield 86, 3) := by decide +kernel
theorem dX7_wayBetween_8 : decode cX7_wayBetween 8 = .ok (.invokestatic 110, 3) := by decide +kernel
theorem dX7_wayBetween_11 : decode cX7_wayBetween 11 = .ok (.iload_n 2, 1) := by decide +kernel
theorem dX7_wayBetween_12 : decode cX7_wayBetween 12 = .ok (.aload_n 0, 1) := by decide +kernel
theorem dX7_wayBetween_13 : decode cX7_wayBetween 13 = .ok (.getfield 51, 3) := by decide +kernel
theorem dX7_wayBetween_16 : decode cX7_wayBetween 16 = .ok (.getfield 86, 3) := by decide +kernel
theorem dX7_wayBetween_19 : decode cX7_wayBetween 19 = .ok (.invokestatic 110, 3) := by decide +kernel
theorem dX7_wayBetween_22 : decode cX7_wayBetween 22 = .ok (.aload_n 0, 1) := by decide +kernel
theorem dX7_wayBetween_23 : decode cX7_wayBetween 23 = .ok (.getfield 23, 3) := by decide +kernel
theorem dX7_wayBetween_26 : decode cX7_wayBetween 26 = .ok (.aload_n 0, 1) := by decide +kernel
theorem dX7_wayBetween_27 : decode cX7_wayBetween 27 = .ok (.getfield 51, 3) := by decide +kernel
theorem dX7_wayBetween_30 : decode cX7_wayBetween 30 = .ok (.iload_n 1, 1) := by decide +kernel
theorem dX7_wayBetween_31 : decode cX7_wayBetween 31 = .ok (.iload_n 2, 1) := by decide +kernel
theorem dX7_wayBetween_32 : decode cX7_wayBetween 32 = .ok (.invokevirtual 224, 3) := by decide +kernel
theorem dX7_wayBetween_35 : decode cX7_wayBetween 35 = .ok (.aload_n 0, 1) := by decide +kernel
theorem dX7_wayBetween_36 : decode cX7_wayBetween 36 = .ok (.getfield 23, 3) := by decide +kernel
theorem dX7_wayBetween_39 : decode cX7_wayBetween 39 = .ok (.getfield 231, 3) := by decide +kernel
theorem dX7_wayBetween_42 : decode cX7_wayBetween 42 = .ok (.ireturn, 1) := by decide +kernel
theorem dX7_bridges_0 : decode cX7_bridges 0 = .ok (.aload_n 0, 1) := by decide +kernel
theorem dX7_bridges_1 : decode cX7_bridges 1 = .ok (.getfield 30, 3) := by decide +kernel
theorem dX7_bridges_4 : decode cX7_bridges 4 = .ok (.aload_n 0, 1) := by decide +kernel
theorem dX7_bridges_5 : decode cX7_bridges 5 = .ok (.getfield 51, 3) := by decide +kernel
theorem dX7_bridges_8 : decode cX7_bridges 8 = .ok (.aload_n 0, 1) := by decide +kernel
theorem dX7_bridges_9 : decode cX7_bridges 9 = .ok (.getfield 51, 3) := by decide +kernel
theorem dX7_bridges_12 : decode cX7_bridges 12 = .ok (.getfield 195, 3) := by decide +kernel
theorem dX7_bridges_15 : decode cX7_bridges 15 = .ok (.invokevirtual 232, 3) := by decide +kernel
theorem dX7_bridges_18 : decode cX7_bridges 18 = .ok (.aload_n 0, 1) := by decide +kernel
theorem dX7_bridges_19 : decode cX7_bridges 19 = .ok (.getfield 51, 3) := by decide +kernel
theorem dX7_bridges_22 : decode cX7_bridges 22 = .ok (.getfield 195, 3) := by decide +kernel
theorem dX7_bridges_25 : decode cX7_bridges 25 = .ok (.istore_n 1, 1) := by decide +kernel
theorem dX7_bridges_26 : decode cX7_bridges 26 = .ok (.iconst 0, 1) := by decide +kernel
theorem dX7_bridges_27 : decode cX7_bridges 27 = .ok (.istore_n 2, 1) := by decide +kernel
theorem dX7_bridges_28 : decode cX7_bridges 28 = .ok (.iload_n 2, 1) := by decide +kernel
theorem dX7_bridges_29 : decode cX7_bridges 29 = .ok (.aload_n 0, 1) := by decide +kernel
theorem dX7_bridges_30 : decode cX7_bridges 30 = .ok (.getfield 30, 3) := by decide +kernel
theorem dX7_bridges_33 : decode cX7_bridges 33 = .ok (.getfield 235, 3) := by decide +kernel
theorem dX7_bridges_36 : decode cX7_bridges 36 = .ok (.if_icmp .ge 23, 3) := by decide +kernel
theorem dX7_bridges_39 : decode cX7_bridges 39 = .ok (.iload_n 1, 1) := by decide +kernel
theorem dX7_bridges_40 : decode cX7_bridges 40 = .ok (.aload_n 0, 1) := by decide +kernel
theorem dX7_bridges_41 : decode cX7_bridges 41 = .ok (.getfield 30, 3) := by decide +kernel
theorem dX7_bridges_44 : decode cX7_bridges 44 = .ok (.getfield 236, 3) := by decide +kernel
theorem dX7_bridges_47 : decode cX7_bridges 47 = .ok (.iload_n 2, 1) := by decide +kernel
theorem dX7_bridges_48 : decode cX7_bridges 48 = .ok (.iaload, 1) := by decide +kernel
theorem dX7_bridges_49 : decode cX7_bridges 49 = .ok (.iconst (-1), 1) := by decide +kernel
theorem dX7_bridges_50 : decode cX7_bridges 50 = .ok (.ixor, 1) := by decide +kernel
theorem dX7_bridges_51 : decode cX7_bridges 51 = .ok (.iand, 1) := by decide +kernel
theorem dX7_bridges_52 : decode cX7_bridges 52 = .ok (.istore_n 1, 1) := by decide +kernel
theorem dX7_bridges_53 : decode cX7_bridges 53 = .ok (.iinc 2 1, 3) := by decide +kernel
theorem dX7_bridges_56 : decode cX7_bridges 56 = .ok (.goto (-28), 3) := by decide +kernel
theorem dX7_bridges_59 : decode cX7_bridges 59 = .ok (.iload_n 1, 1) := by decide +kernel
theorem dX7_bridges_60 : decode cX7_bridges 60 = .ok (.ireturn, 1) := by decide +kernel
theorem dX7_treeLines_0 : decode cX7_treeLines 0 = .ok (.aload_n 0, 1) := by decide +kernel
theorem dX7_treeLines_1 : decode cX7_treeLines 1 = .ok (.getfield 30, 3) := by decide +kernel
theorem dX7_treeLines_4 : decode cX7_treeLines 4 = .ok (.getfield 202, 3) := by decide +kernel
theorem dX7_treeLines_7 : decode cX7_treeLines 7 = .ok (.aload_n 0, 1) := by decide +kernel
theorem dX7_treeLines_8 : decode cX7_treeLines 8 = .ok (.getfield 51, 3) := by decide +kernel
theorem dX7_treeLines_11 : decode cX7_treeLines 11 = .ok (.aload_n 0, 1) := by decide +kernel
theorem dX7_treeLines_12 : decode cX7_treeLines 12 = .ok (.getfield 51, 3) := by decide +kernel
theorem dX7_treeLines_15 : decode cX7_treeLines 15 = .ok (.getfield 195, 3) := by decide +kernel
theorem dX7_treeLines_18 : decode cX7_treeLines 18 = .ok (.invokevirtual 206, 3) := by decide +kernel
theorem dX7_treeLines_21 : decode cX7_treeLines 21 = .ok (.aload_n 0, 1) := by decide +kernel
theorem dX7_treeLines_22 : decode cX7_treeLines 22 = .ok (.getfield 30, 3) := by decide +kernel
theorem dX7_treeLines_25 : decode cX7_treeLines 25 = .ok (.getfield 202, 3) := by decide +kernel
theorem dX7_treeLines_28 : decode cX7_treeLines 28 = .ok (.getfield 239, 3) := by decide +kernel
theorem dX7_treeLines_31 : decode cX7_treeLines 31 = .ok (.ireturn, 1) := by decide +kernel
theorem dX7_countLoops_0 : decode cX7_countLoops 0 = .ok (.aload_n 0, 1) := by decide +kernel
theorem dX7_countLoops_1 : decode cX7_countLoops 1 = .ok (.getfield 30, 3) := by decide +kernel
theorem dX7_countLoops_4 : decode cX7_countLoops 4 = .ok (.getfield 202, 3) := by decide +kernel
theorem dX7_countLoops_7 : decode cX7_countLoops 7 = .ok (.aload_n 0, 1) := by decide +kernel
theorem dX7_countLoops_8 : decode cX7_countLoops 8 = .ok (.getfield 51, 3) := by decide +kernel
theorem dX7_countLoops_11 : decode cX7_countLoops 11 = .ok (.aload_n 0, 1) := by decide +kernel
theorem dX7_countLoops_12 : decode cX7_countLoops 12 = .ok (.getfield 51, 3) := by decide +kernel
theorem dX7_countLoops_15 : decode cX7_countLoops 15 = .ok (.getfield 195, 3) := by decide +kernel
theorem dX7_countLoops_18 : decode cX7_countLoops 18 = .ok (.invokevirtual 206, 3) := by decide +kernel
theorem dX7_countLoops_21 : decode cX7_countLoops 21 = .ok (.aload_n 0, 1) := by decide +kernel
theorem dX7_countLoops_22 : decode cX7_countLoops 22 = .ok (.getfield 51, 3) := by decide +kernel
theorem dX7_countLoops_25 : decode cX7_countLoops 25 = .ok (.getfield 195, 3) := by decide +kernel
theorem dX7_countLoops_28 : decode cX7_countLoops 28 = .ok (.aload_n 0, 1) := by decide +kernel
theorem dX7_countLoops_29 : decode cX7_countLoops 29 = .ok (.getfield 30, 3) := by decide +kernel
theorem dX7_countLoops_32 : decode cX7_countLoops 32 = .ok (.getfield 202, 3) := by decide +kernel
theorem dX7_countLoops_35 : decode cX7_countLoops 35 = .ok (.getfield 239, 3) := by decide +kernel
theorem dX7_countLoops_38 : decode cX7_countLoops 38 = .ok (.iconst (-1), 1) := by decide +kernel
theorem dX7_countLoops_39 : decode cX7_countLoops 39 = .ok (.ixor, 1) := by decide +kernel
theorem dX7_countLoops_40 : decode cX7_countLoops 40 = .ok (.iand, 1) := by decide +kernel
theorem dX7_countLoops_41 : decode cX7_countLoops 41 = .ok (.invokestatic 279, 3) := by decide +kernel
theorem dX7_countLoops_44 : decode cX7_countLoops 44 = .ok (.ireturn, 1) := by decide +kernel
theorem dX7_loopCount_0 : decode cX7_loopCount 0 = .ok (.aload_n 0, 1) := by decide +kernel
theorem dX7_loopCount_1 : decode cX7_loopCount 1 = .ok (.invokevirtual 242, 3) := by decide +kernel
theorem dX7_loopCount_4 : decode cX7_loopCount 4 = .ok (.ireturn, 1) := by decide +kernel
theorem dX7_needLoop_0 : decode cX7_needLoop 0 = .ok (.aload_n 0, 1) := by decide +kernel
theorem dX7_needLoop_1 : decode cX7_needLoop 1 = .ok (.getfield 30, 3) := by decide +kernel
theorem dX7_needLoop_4 : decode cX7_needLoop 4 = .ok (.aload_n 0, 1) := by decide +kernel
theorem dX7_needLoop_5 : decode cX7_needLoop 5 = .ok (.getfield 51, 3) := by decide +kernel
theorem dX7_needLoop_8 : decode cX7_needLoop 8 = .ok (.aload_n 0, 1) := by decide +kernel
theorem dX7_needLoop_9 : decode cX7_needLoop 9 = .ok (.getfield 51, 3) := by decide +kernel
theorem dX7_needLoop_12 : decode cX7_needLoop 12 = .ok (.getfield 195, 3) := by decide +kernel
theorem dX7_needLoop_15 : decode cX7_needLoop 15 = .ok (.invokevirtual 232, 3) := by decide +kernel
theorem dX7_needLoop_18 : decode cX7_needLoop 18 = .ok (.iload_n 1, 1) := by decide +kernel
theorem dX7_needLoop_19 : decode cX7_needLoop 19 = .ok (.aload_n 0, 1) := by decide +kernel
theorem dX7_needLoop_20 : decode cX7_needLoop 20 = .ok (.getfield 30, 3) := by decide +kernel
theorem dX7_needLoop_23 : decode cX7_needLoop 23 = .ok (.getfield 235, 3) := by decide +kernel
theorem dX7_needLoop_26 : decode cX7_needLoop 26 = .ok (.invokestatic 110, 3) := by decide +kernel
theorem dX7_needLoop_29 : decode cX7_needLoop 29 = .ok (.return_, 1) := by decide +kernel
theorem dX7_loopLine_0 : decode cX7_loopLine 0 = .ok (.aload_n 0, 1) := by decide +kernel
theorem dX7_loopLine_1 : decode cX7_loopLine 1 = .ok (.iload_n 1, 1) := by decide +kernel
theorem dX7_loopLine_2 : decode cX7_loopLine 2 = .ok (.invokevirtual 246, 3) := by decide +kernel
theorem dX7_loopLine_5 : decode cX7_loopLine 5 = .ok (.aload_n 0, 1) := by decide +kernel
theorem dX7_loopLine_6 : decode cX7_loopLine 6 = .ok (.getfield 30, 3) := by decide +kernel
theorem dX7_loopLine_9 : decode cX7_loopLine 9 = .ok (.aload_n 0, 1) := by decide +kernel
theorem dX7_loopLine_10 : decode cX7_loopLine 10 = .ok (.getfield 51, 3) := by decide +kernel
theorem dX7_loopLine_13 : decode cX7_loopLine 13 = .ok (.aload_n 0, 1) := by decide +kernel
theorem dX7_loopLine_14 : decode cX7_loopLine 14 = .ok (.getfield 30, 3) := by decide +kernel
theorem dX7_loopLine_17 : decode cX7_loopLine 17 = .ok (.getfield 249, 3) := by decide +kernel
theorem dX7_loopLine_20 : decode cX7_loopLine 20 = .ok (.iload_n 1, 1) := by decide +kernel
theorem dX7_loopLine_21 : decode cX7_loopLine 21 = .ok (.iaload, 1) := by decide +kernel
theorem dX7_loopLine_22 : decode cX7_loopLine 22 = .ok (.invokevirtual 252, 3) := by decide +kernel
theorem dX7_loopLine_25 : decode cX7_loopLine 25 = .ok (.iload_n 2, 1) := by decide +kernel
theorem dX7_loopLine_26 : decode cX7_loopLine 26 = .ok (.aload_n 0, 1) := by decide +kernel
theorem dX7_loopLine_27 : decode cX7_loopLine 27 = .ok (.getfield 30, 3) := by decide +kernel
theorem dX7_loopLine_30 : decode cX7_loopLine 30 = .ok (.getfield 255, 3) := by decide +kernel
theorem dX7_loopLine_33 : decode cX7_loopLine 33 = .ok (.invokestatic 102, 3) := by decide +kernel
theorem dX7_loopLine_36 : decode cX7_loopLine 36 = .ok (.ifCond .ne 5, 3) := by decide +kernel
theorem dX7_loopLine_39 : decode cX7_loopLine 39 = .ok (.iconst (-1), 1) := by decide +kernel
theorem dX7_loopLine_40 : decode cX7_loopLine 40 = .ok (.ireturn, 1) := by decide +kernel
theorem dX7_loopLine_41 : decode cX7_loopLine 41 = .ok (.aload_n 0, 1) := by decide +kernel
theorem dX7_loopLine_42 : decode cX7_loopLine 42 = .ok (.getfield 30, 3) := by decide +kernel
theorem dX7_loopLine_45 : decode cX7_loopLine 45 = .ok (.getfield 258, 3) := by decide +kernel
theorem dX7_loopLine_48 : decode cX7_loopLine 48 = .ok (.iload_n 2, 1) := by decide +kernel
theorem dX7_loopLine_49 : decode cX7_loopLine 49 = .ok (.iaload, 1) := by decide +kernel
theorem dX7_loopLine_50 : decode cX7_loopLine 50 = .ok (.ireturn, 1) := by decide +kernel
theorem dX7_loopLength_0 : decode cX7_loopLength 0 = .ok (.aload_n 0, 1) := by decide +kernel
theorem dX7_loopLength_1 : decode cX7_loopLength 1 = .ok (.iload_n 1, 1) := by decide +kernel
theorem dX7_loopLength_2 : decode cX7_loopLength 2 = .ok (.invokevirtual 246, 3) := by decide +kernel
theorem dX7_loopLength_5 : decode cX7_loopLength 5 = .ok (.aload_n 0, 1) := by decide +kernel
theorem dX7_loopLength_6 : decode cX7_loopLength 6 = .ok (.getfield 30, 3) := by decide +kernel
theorem dX7_loopLength_9 : decode cX7_loopLength 9 = .ok (.getfield 261, 3) := by decide +kernel
theorem dX7_loopLength_12 : decode cX7_loopLength 12 = .ok (.iload_n 1, 1) := by decide +kernel
theorem dX7_loopLength_13 : decode cX7_loopLength 13 = .ok (.iaload, 1) := by decide +kernel
theorem dX7_loopLength_14 : decode cX7_loopLength 14 = .ok (.ireturn, 1) := by decide +kernel
theorem dX7_misclosure_0 : decode cX7_misclosure 0 = .ok (.aload_n 0, 1) := by decide +kernel
theorem dX7_misclosure_1 : decode cX7_misclosure 1 = .ok (.iload_n 1, 1) := by decide +kernel
theorem dX7_misclosure_2 : decode cX7_misclosure 2 = .ok (.invokevirtual 246, 3) := by decide +kernel
theorem dX7_misclosure_5 : decode cX7_misclosure 5 = .ok (.aload_n 0, 1) := by decide +kernel
theorem dX7_misclosure_6 : decode cX7_misclosure 6 = .ok (.getfield 30, 3) := by decide +kernel
theorem dX7_misclosure_9 : decode cX7_misclosure 9 = .ok (.getfield 264, 3) := by decide +kernel
theorem dX7_misclosure_12 : decode cX7_misclosure 12 = .ok (.iload_n 1, 1) := by decide +kernel
theorem dX7_misclosure_13 : decode cX7_misclosure 13 = .ok (.iaload, 1) := by decide +kernel
theorem dX7_misclosure_14 : decode cX7_misclosure 14 = .ok (.ireturn, 1) := by decide +kernel
theorem dX7_allowed_0 : decode cX7_allowed 0 = .ok (.aload_n 0, 1) := by decide +kernel
theorem dX7_allowed_1 : decode cX7_allowed 1 = .ok (.iload_n 1, 1) := by decide +kernel
theorem dX7_allowed_2 : decode cX7_allowed 2 = .ok (.invokevirtual 246, 3) := by decide +kernel
theorem dX7_allowed_5 : decode cX7_allowed 5 = .ok (.aload_n 0, 1) := by decide +kernel
theorem dX7_allowed_6 : decode cX7_allowed 6 = .ok (.getfield 30, 3) := by decide +kernel
theorem dX7_allowed_9 : decode cX7_allowed 9 = .ok (.getfield 267, 3) := by decide +kernel
theorem dX7_allowed_12 : decode cX7_allowed 12 = .ok (.iload_n 1, 1) := by decide +kernel
theorem dX7_allowed_13 : decode cX7_allowed 13 = .ok (.iaload, 1) := by decide +kernel
theorem dX7_allowed_14 : decode cX7_allowed 14 = .ok (.ireturn, 1) := by decide +kernel
theorem dX7_badLoops_0 : decode cX7_badLoops 0 = .ok (.aload_n 0, 1) := by decide +kernel
theorem dX7_badLoops_1 : decode cX7_badLoops 1 = .ok (.getfield 30, 3) := by decide +kernel
theorem dX7_badLoops_4 : decode cX7_badLoops 4 = .ok (.aload_n 0, 1) := by decide +kernel
theorem dX7_badLoops_5 : decode cX7_badLoops 5 = .ok (.getfield 51, 3) := by decide +kernel
theorem dX7_badLoops_8 : decode cX7_badLoops 8 = .ok (.aload_n 0, 1) := by decide +kernel
theorem dX7_badLoops_9 : decode cX7_badLoops 9 = .ok (.getfield 51, 3) := by decide +kernel
theorem dX7_badLoops_12 : decode cX7_badLoops 12 = .ok (.getfield 195, 3) := by decide +kernel
theorem dX7_badLoops_15 : decode cX7_badLoops 15 = .ok (.invokevirtual 232, 3) := by decide +kernel
theorem dX7_badLoops_18 : decode cX7_badLoops 18 = .ok (.aload_n 0, 1) := by decide +kernel
theorem dX7_badLoops_19 : decode cX7_badLoops 19 = .ok (.getfield 30, 3) := by decide +kernel
theorem dX7_badLoops_22 : decode cX7_badLoops 22 = .ok (.invokevirtual 270, 3) := by decide +kernel
theorem dX7_badLoops_25 : decode cX7_badLoops 25 = .ok (.ireturn, 1) := by decide +kernel
theorem dX7_provisional_0 : decode cX7_provisional 0 = .ok (.iload_n 1, 1) := by decide +kernel
theorem dX7_provisional_1 : decode cX7_provisional 1 = .ok (.aload_n 0, 1) := by decide +kernel
theorem dX7_provisional_2 : decode cX7_provisional 2 = .ok (.getfield 51, 3) := by decide +kernel
theorem dX7_provisional_5 : decode cX7_provisional 5 = .ok (.getfield 86, 3) := by decide +kernel
theorem dX7_provisional_8 : decode cX7_provisional 8 = .ok (.invokestatic 110, 3) := by decide +kernel
theorem dX7_provisional_11 : decode cX7_provisional 11 = .ok (.aload_n 0, 1) := by decide +kernel
theorem dX7_provisional_12 : decode cX7_provisional 12 = .ok (.getfield 37, 3) := by decide +kernel
theorem dX7_provisional_15 : decode cX7_provisional 15 = .ok (.aload_n 0, 1) := by decide +kernel
theorem dX7_provisional_16 : decode cX7_provisional 16 = .ok (.getfield 51, 3) := by decide +kernel
theorem dX7_provisional_19 : decode cX7_provisional 19 = .ok (.invokevirtual 181, 3) := by decide +kernel
theorem dX7_provisional_22 : decode cX7_provisional 22 = .ok (.aload_n 0, 1) := by decide +kernel
theorem dX7_provisional_23 : decode cX7_provisional 23 = .ok (.getfield 37, 3) := by decide +kernel
theorem dX7_provisional_26 : decode cX7_provisional 26 = .ok (.getfield 185, 3) := by decide +kernel
theorem dX7_provisional_29 : decode cX7_provisional 29 = .ok (.iload_n 1, 1) := by decide +kernel
theorem dX7_provisional_30 : decode cX7_provisional 30 = .ok (.laload, 1) := by decide +kernel
theorem dX7_provisional_31 : decode cX7_provisional 31 = .ok (.lreturn, 1) := by decide +kernel
theorem dX7_isAdjusted_0 : decode cX7_isAdjusted 0 = .ok (.aload_n 0, 1) := by decide +kernel
theorem dX7_isAdjusted_1 : decode cX7_isAdjusted 1 = .ok (.getfield 37, 3) := by decide +kernel
theorem dX7_isAdjusted_4 : decode cX7_isAdjusted 4 = .ok (.getfield 76, 3) := by decide +kernel
theorem dX7_isAdjusted_7 : decode cX7_isAdjusted 7 = .ok (.ireturn, 1) := by decide +kernel
theorem dX7_heightOf_0 : decode cX7_heightOf 0 = .ok (.iload_n 1, 1) := by decide +kernel
theorem dX7_heightOf_1 : decode cX7_heightOf 1 = .ok (.aload_n 0, 1) := by decide +kernel
theorem dX7_heightOf_2 : decode cX7_heightOf 2 = .ok (.getfield 51, 3) := by decide +kernel
theorem dX7_heightOf_5 : decode cX7_heightOf 5 = .ok (.getfield 86, 3) := by decide +kernel
theorem dX7_heightOf_8 : decode cX7_heightOf 8 = .ok (.invokestatic 110, 3) := by decide +kernel
theorem dX7_heightOf_11 : decode cX7_heightOf 11 = .ok (.aload_n 0, 1) := by decide +kernel
theorem dX7_heightOf_12 : decode cX7_heightOf 12 = .ok (.getfield 37, 3) := by decide +kernel
theorem dX7_heightOf_15 : decode cX7_heightOf 15 = .ok (.iload_n 1, 1) := by decide +kernel
theorem dX7_heightOf_16 : decode cX7_heightOf 16 = .ok (.invokevirtual 282, 3) := by decide +kernel
theorem dX7_heightOf_19 : decode cX7_heightOf 19 = .ok (.lreturn, 1) := by decide +kernel
theorem dX7_residual_0 : decode cX7_residual 0 = .ok (.iload_n 1, 1) := by decide +kernel
theorem dX7_residual_1 : decode cX7_residual 1 = .ok (.aload_n 0, 1) := by decide +kernel
theorem dX7_residual_2 : decode cX7_residual 2 = .ok (.getfield 51, 3) := by decide +kernel
theorem dX7_residual_5 : decode cX7_residual 5 = .ok (.getfield 89, 3) := by decide +kernel
theorem dX7_residual_8 : decode cX7_residual 8 = .ok (.invokestatic 110, 3) := by decide +kernel
theorem dX7_residual_11 : decode cX7_residual 11 = .ok (.aload_n 0, 1) := by decide +kernel
theorem dX7_residual_12 : decode cX7_residual 12 = .ok (.getfield 37, 3) := by decide +kernel
theorem dX7_residual_15 : decode cX7_residual 15 = .ok (.aload_n 0, 1) := by decide +kernel
theorem dX7_residual_16 : decode cX7_residual 16 = .ok (.getfield 51, 3) := by decide +kernel
theorem dX7_residual_19 : decode cX7_residual 19 = .ok (.iload_n 1, 1) := by decide +kernel
theorem dX7_residual_20 : decode cX7_residual 20 = .ok (.invokevirtual 286, 3) := by decide +kernel
theorem dX7_residual_23 : decode cX7_residual 23 = .ok (.lreturn, 1) := by decide +kernel
theorem dX7_keepBefore_0 : decode cX7_keepBefore 0 = .ok (.aload_n 0, 1) := by decide +kernel
theorem dX7_keepBefore_1 : decode cX7_keepBefore 1 = .ok (.getfield 44, 3) := by decide +kernel
theorem dX7_keepBefore_4 : decode cX7_keepBefore 4 = .ok (.iload_n 1, 1) := by decide +kernel
theorem dX7_keepBefore_5 : decode cX7_keepBefore 5 = .ok (.iload_n 2, 1) := by decide +kernel
theorem dX7_keepBefore_6 : decode cX7_keepBefore 6 = .ok (.iload_n 3, 1) := by decide +kernel
theorem dX7_keepBefore_7 : decode cX7_keepBefore 7 = .ok (.aload_n 0, 1) := by decide +kernel
theorem dX7_keepBefore_8 : decode cX7_keepBefore 8 = .ok (.getfield 37, 3) := by decide +kernel
theorem dX7_keepBefore_11 : decode cX7_keepBefore 11 = .ok (.invokevirtual 324, 3) := by decide +kernel
theorem dX7_keepBefore_14 : decode cX7_keepBefore 14 = .ok (.aload_n 0, 1) := by decide +kernel
theorem dX7_keepBefore_15 : decode cX7_keepBefore 15 = .ok (.getfield 37, 3) := by decide +kernel
theorem dX7_keepBefore_18 : decode cX7_keepBefore 18 = .ok (.iconst 0, 1) := by decide +kernel
theorem dX7_keepBefore_19 : decode cX7_keepBefore 19 = .ok (.putfield 76, 3) := by decide +kernel
theorem dX7_keepBefore_22 : decode cX7_keepBefore 22 = .ok (.return_, 1) := by decide +kernel
theorem dX7_hold_0 : decode cX7_hold 0 = .ok (.iload_n 1, 1) := by decide +kernel
theorem dX7_hold_1 : decode cX7_hold 1 = .ok (.aload_n 0, 1) := by decide +kernel
theorem dX7_hold_2 : decode cX7_hold 2 = .ok (.getfield 51, 3) := by decide +kernel
theorem dX7_hold_5 : decode cX7_hold 5 = .ok (.getfield 86, 3) := by decide +kernel
theorem dX7_hold_8 : decode cX7_hold 8 = .ok (.invokestatic 102, 3) := by decide +kernel
theorem dX7_hold_11 : decode cX7_hold 11 = .ok (.ifCond .ne 5, 3) := by decide +kernel
theorem dX7_hold_14 : decode cX7_hold 14 = .ok (.iconst (-1), 1) := by decide +kernel
theorem dX7_hold_15 : decode cX7_hold 15 = .ok (.ireturn, 1) := by decide +kernel
theorem dX7_hold_16 : decode cX7_hold 16 = .ok (.iload_n 2, 1) := by decide +kernel
theorem dX7_hold_17 : decode cX7_hold 17 = .ok (.ifCond .lt 10, 3) := by decide +kernel
theorem dX7_hold_20 : decode cX7_hold 20 = .ok (.iload_n 2, 1) := by decide +kernel
theorem dX7_hold_21 : decode cX7_hold 21 = .ok (.ldc_w 297, 3) := by decide +kernel
theorem dX7_hold_24 : decode cX7_hold 24 = .ok (.if_icmp .le 6, 3) := by decide +kernel
theorem dX7_hold_27 : decode cX7_hold 27 = .ok (.bipush (-2), 2) := by decide +kernel
theorem dX7_hold_29 : decode cX7_hold 29 = .ok (.ireturn, 1) := by decide +kernel
theorem dX7_hold_30 : decode cX7_hold 30 = .ok (.aload_n 0, 1) := by decide +kernel
theorem dX7_hold_31 : decode cX7_hold 31 = .ok (.iconst 0, 1) := by decide +kernel
theorem dX7_hold_32 : decode cX7_hold 32 = .ok (.iload_n 1, 1) := by decide +kernel
theorem dX7_hold_33 : decode cX7_hold 33 = .ok (.aload_n 0, 1) := by decide +kernel
theorem dX7_hold_34 : decode cX7_hold 34 = .ok (.getfield 51, 3) := by decide +kernel
theorem dX7_hold_37 : decode cX7_hold 37 = .ok (.getfield 127, 3) := by decide +kernel
theorem dX7_hold_40 : decode cX7_hold 40 = .ok (.iload_n 1, 1) := by decide +kernel
theorem dX7_hold_41 : decode cX7_hold 41 = .ok (.iaload, 1) := by decide +kernel
theorem dX7_hold_42 : decode cX7_hold 42 = .ok (.invokevirtual 298, 3) := by decide +kernel
theorem dX7_hold_45 : decode cX7_hold 45 = .ok (.aload_n 0, 1) := by decide +kernel
theorem dX7_hold_46 : decode cX7_hold 46 = .ok (.getfield 51, 3) := by decide +kernel
theorem dX7_hold_49 : decode cX7_hold 49 = .ok (.getfield 127, 3) := by decide +kernel
theorem dX7_hold_52 : decode cX7_hold 52 = .ok (.iload_n 1, 1) := by decide +kernel
theorem dX7_hold_53 : decode cX7_hold 53 = .ok (.iload_n 2, 1) := by decide +kernel
theorem dX7_hold_54 : decode cX7_hold 54 = .ok (.iastore, 1) := by decide +kernel
theorem dX7_hold_55 : decode cX7_hold 55 = .ok (.aload_n 0, 1) := by decide +kernel
theorem dX7_hold_56 : decode cX7_hold 56 = .ok (.getfield 51, 3) := by decide +kernel
theorem dX7_hold_59 : decode cX7_hold 59 = .ok (.invokevirtual 302, 3) := by decide +kernel
theorem dX7_hold_62 : decode cX7_hold 62 = .ok (.ireturn, 1) := by decide +kernel
theorem dX7_release_0 : decode cX7_release 0 = .ok (.iload_n 1, 1) := by decide +kernel
theorem dX7_release_1 : decode cX7_release 1 = .ok (.aload_n 0, 1) := by decide +kernel
theorem dX7_release_2 : decode cX7_release 2 = .ok (.getfield 51, 3) := by decide +kernel
theorem dX7_release_5 : decode cX7_release 5 = .ok (.getfield 86, 3) := by decide +kernel
theorem dX7_release_8 : decode cX7_release 8 = .ok (.invokestatic 102, 3) := by decide +kernel
theorem dX7_release_11 : decode cX7_release 11 = .ok (.ifCond .eq 16, 3) := by decide +kernel
theorem dX7_release_14 : decode cX7_release 14 = .ok (.aload_n 0, 1) := by decide +kernel
theorem dX7_release_15 : decode cX7_release 15 = .ok (.getfield 51, 3) := by decide +kernel
theorem dX7_release_18 : decode cX7_release 18 = .ok (.getfield 127, 3) := by decide +kernel
theorem dX7_release_21 : decode cX7_release 21 = .ok (.iload_n 1, 1) := by decide +kernel
theorem dX7_release_22 : decode cX7_release 22 = .ok (.iaload, 1) := by decide +kernel
theorem dX7_release_23 : decode cX7_release 23 = .ok (.iconst (-1), 1) := by decide +kernel
theorem dX7_release_24 : decode cX7_release 24 = .ok (.if_icmp .ne 5, 3) := by decide +kernel
theorem dX7_release_27 : decode cX7_release 27 = .ok (.iconst (-1), 1) := by decide +kernel
theorem dX7_release_28 : decode cX7_release 28 = .ok (.ireturn, 1) := by decide +kernel
theorem dX7_release_29 : decode cX7_release 29 = .ok (.aload_n 0, 1) := by decide +kernel
theorem dX7_release_30 : decode cX7_release 30 = .ok (.iconst 0, 1) := by decide +kernel
theorem dX7_release_31 : decode cX7_release 31 = .ok (.iload_n 1, 1) := by decide +kernel
theorem dX7_release_32 : decode cX7_release 32 = .ok (.aload_n 0, 1) := by decide +kernel
theorem dX7_release_33 : decode cX7_release 33 = .ok (.getfield 51, 3) := by decide +kernel
theorem dX7_release_36 : decode cX7_release 36 = .ok (.getfield 127, 3) := by decide +kernel
theorem dX7_release_39 : decode cX7_release 39 = .ok (.iload_n 1, 1) := by decide +kernel
theorem dX7_release_40 : decode cX7_release 40 = .ok (.iaload, 1) := by decide +kernel
theorem dX7_release_41 : decode cX7_release 41 = .ok (.invokevirtual 298, 3) := by decide +kernel
theorem dX7_release_44 : decode cX7_release 44 = .ok (.aload_n 0, 1) := by decide +kernel
theorem dX7_release_45 : decode cX7_release 45 = .ok (.getfield 51, 3) := by decide +kernel
theorem dX7_release_48 : decode cX7_release 48 = .ok (.getfield 127, 3) := by decide +kernel
theorem dX7_release_51 : decode cX7_release 51 = .ok (.iload_n 1, 1) := by decide +kernel
theorem dX7_release_52 : decode cX7_release 52 = .ok (.iconst (-1), 1) := by decide +kernel
theorem dX7_release_53 : decode cX7_release 53 = .ok (.iastore, 1) := by decide +kernel
theorem dX7_release_54 : decode cX7_release 54 = .ok (.aload_n 0, 1) := by decide +kernel
theorem dX7_release_55 : decode cX7_release 55 = .ok (.getfield 51, 3) := by decide +kernel
theorem dX7_release_58 : decode cX7_release 58 = .ok (.invokevirtual 302, 3) := by decide +kernel
theorem dX7_release_61 : decode cX7_release 61 = .ok (.ireturn, 1) := by decide +kernel
theorem dX7_fits_0 : decode cX7_fits 0 = .ok (.iload_n 1, 1) := by decide +kernel
theorem dX7_fits_1 : decode cX7_fits 1 = .ok (.getstatic 335, 3) := by decide +kernel
theorem dX7_fits_4 : decode cX7_fits 4 = .ok (.iload_n 0, 1) := by decide +kernel
theorem dX7_fits_5 : decode cX7_fits 5 = .ok (.iaload, 1) := by decide +kernel
theorem dX7_fits_6 : decode cX7_fits 6 = .ok (.if_icmp .lt 16, 3) := by decide +kernel
theorem dX7_fits_9 : decode cX7_fits 9 = .ok (.iload_n 1, 1) := by decide +kernel
theorem dX7_fits_10 : decode cX7_fits 10 = .ok (.getstatic 338, 3) := by decide +kernel
theorem dX7_fits_13 : decode cX7_fits 13 = .ok (.iload_n 0, 1) := by decide +kernel
theorem dX7_fits_14 : decode cX7_fits 14 = .ok (.iaload, 1) := by decide +kernel
theorem dX7_fits_15 : decode cX7_fits 15 = .ok (.if_icmp .gt 7, 3) := by decide +kernel
theorem dX7_fits_18 : decode cX7_fits 18 = .ok (.iconst 1, 1) := by decide +kernel
theorem dX7_fits_19 : decode cX7_fits 19 = .ok (.goto 4, 3) := by decide +kernel
theorem dX7_fits_22 : decode cX7_fits 22 = .ok (.iconst 0, 1) := by decide +kernel
theorem dX7_fits_23 : decode cX7_fits 23 = .ok (.ireturn, 1) := by decide +kernel
theorem dX7_setReading_0 : decode cX7_setReading 0 = .ok (.iload_n 1, 1) := by decide +kernel
theorem dX7_setReading_1 : decode cX7_setReading 1 = .ok (.aload_n 0, 1) := by decide +kernel
theorem dX7_setReading_2 : decode cX7_setReading 2 = .ok (.getfield 51, 3) := by decide +kernel
theorem dX7_setReading_5 : decode cX7_setReading 5 = .ok (.getfield 89, 3) := by decide +kernel
theorem dX7_setReading_8 : decode cX7_setReading 8 = .ok (.invokestatic 102, 3) := by decide +kernel
theorem dX7_setReading_11 : decode cX7_setReading 11 = .ok (.ifCond .eq 15, 3) := by decide +kernel
theorem dX7_setReading_14 : decode cX7_setReading 14 = .ok (.aload_n 0, 1) := by decide +kernel
theorem dX7_setReading_15 : decode cX7_setReading 15 = .ok (.getfield 51, 3) := by decide +kernel
theorem dX7_setReading_18 : decode cX7_setReading 18 = .ok (.iload_n 1, 1) := by decide +kernel
theorem dX7_setReading_19 : decode cX7_setReading 19 = .ok (.iload_n 2, 1) := by decide +kernel
theorem dX7_setReading_20 : decode cX7_setReading 20 = .ok (.invokevirtual 152, 3) := by decide +kernel
theorem dX7_setReading_23 : decode cX7_setReading 23 = .ok (.ifCond .ne 5, 3) := by decide +kernel
theorem dX7_setReading_26 : decode cX7_setReading 26 = .ok (.iconst (-1), 1) := by decide +kernel
theorem dX7_setReading_27 : decode cX7_setReading 27 = .ok (.ireturn, 1) := by decide +kernel
theorem dX7_setReading_28 : decode cX7_setReading 28 = .ok (.iload_n 3, 1) := by decide +kernel
theorem dX7_setReading_29 : decode cX7_setReading 29 = .ok (.iconst 4, 1) := by decide +kernel
theorem dX7_setReading_30 : decode cX7_setReading 30 = .ok (.invokestatic 102, 3) := by decide +kernel
theorem dX7_setReading_33 : decode cX7_setReading 33 = .ok (.ifCond .eq 12, 3) := by decide +kernel
theorem dX7_setReading_36 : decode cX7_setReading 36 = .ok (.iload_n 3, 1) := by decide +kernel
theorem dX7_setReading_37 : decode cX7_setReading 37 = .ok (.iload 4, 2) := by decide +kernel
theorem dX7_setReading_39 : decode cX7_setReading 39 = .ok (.invokestatic 305, 3) := by decide +kernel
theorem dX7_setReading_42 : decode cX7_setReading 42 = .ok (.ifCond .ne 6, 3) := by decide +kernel
theorem dX7_setReading_45 : decode cX7_setReading 45 = .ok (.bipush (-2), 2) := by decide +kernel
theorem dX7_setReading_47 : decode cX7_setReading 47 = .ok (.ireturn, 1) := by decide +kernel
theorem dX7_setReading_48 : decode cX7_setReading 48 = .ok (.aload_n 0, 1) := by decide +kernel
theorem dX7_setReading_49 : decode cX7_setReading 49 = .ok (.getfield 51, 3) := by decide +kernel
theorem dX7_setReading_52 : decode cX7_setReading 52 = .ok (.iload_n 1, 1) := by decide +kernel
theorem dX7_setReading_53 : decode cX7_setReading 53 = .ok (.iload_n 2, 1) := by decide +kernel
theorem dX7_setReading_54 : decode cX7_setReading 54 = .ok (.invokevirtual 158, 3) := by decide +kernel
theorem dX7_setReading_57 : decode cX7_setReading 57 = .ok (.iload_n 3, 1) := by decide +kernel
theorem dX7_setReading_58 : decode cX7_setReading 58 = .ok (.iadd, 1) := by decide +kernel
theorem dX7_setReading_59 : decode cX7_setReading 59 = .ok (.istore 5, 2) := by decide +kernel
theorem dX7_setReading_61 : decode cX7_setReading 61 = .ok (.aload_n 0, 1) := by decide +kernel
theorem dX7_setReading_62 : decode cX7_setReading 62 = .ok (.getfield 51, 3) := by decide +kernel
theorem dX7_setReading_65 : decode cX7_setReading 65 = .ok (.getfield 155, 3) := by decide +kernel
theorem dX7_setReading_68 : decode cX7_setReading 68 = .ok (.iload 5, 2) := by decide +kernel
theorem dX7_setReading_70 : decode cX7_setReading 70 = .ok (.iaload, 1) := by decide +kernel
theorem dX7_setReading_71 : decode cX7_setReading 71 = .ok (.istore 6, 2) := by decide +kernel
theorem dX7_setReading_73 : decode cX7_setReading 73 = .ok (.aload_n 0, 1) := by decide +kernel
theorem dX7_setReading_74 : decode cX7_setReading 74 = .ok (.iconst 1, 1) := by decide +kernel
theorem dX7_setReading_75 : decode cX7_setReading 75 = .ok (.iload 5, 2) := by decide +kernel
theorem dX7_setReading_77 : decode cX7_setReading 77 = .ok (.iload 6, 2) := by decide +kernel
theorem dX7_setReading_79 : decode cX7_setReading 79 = .ok (.invokevirtual 298, 3) := by decide +kernel
theorem dX7_setReading_82 : decode cX7_setReading 82 = .ok (.aload_n 0, 1) := by decide +kernel
theorem dX7_setReading_83 : decode cX7_setReading 83 = .ok (.getfield 51, 3) := by decide +kernel
theorem dX7_setReading_86 : decode cX7_setReading 86 = .ok (.getfield 155, 3) := by decide +kernel
theorem dX7_setReading_89 : decode cX7_setReading 89 = .ok (.iload 5, 2) := by decide +kernel
theorem dX7_setReading_91 : decode cX7_setReading 91 = .ok (.iload 4, 2) := by decide +kernel
theorem dX7_setReading_93 : decode cX7_setReading 93 = .ok (.iastore, 1) := by decide +kernel
theorem dX7_setReading_94 : decode cX7_setReading 94 = .ok (.iload 6, 2) := by decide +kernel
theorem dX7_setReading_96 : decode cX7_setReading 96 = .ok (.ireturn, 1) := by decide +kernel
theorem dX7_addSetup_0 : decode cX7_addSetup 0 = .ok (.iload_n 1, 1) := by decide +kernel
theorem dX7_addSetup_1 : decode cX7_addSetup 1 = .ok (.aload_n 0, 1) := by decide +kernel
theorem dX7_addSetup_2 : decode cX7_addSetup 2 = .ok (.getfield 51, 3) := by decide +kernel
theorem dX7_addSetup_5 : decode cX7_addSetup 5 = .ok (.getfield 89, 3) := by decide +kernel
theorem dX7_addSetup_8 : decode cX7_addSetup 8 = .ok (.invokestatic 102, 3) := by decide +kernel
theorem dX7_addSetup_11 : decode cX7_addSetup 11 = .ok (.ifCond .ne 5, 3) := by decide +kernel
theorem dX7_addSetup_14 : decode cX7_addSetup 14 = .ok (.iconst (-1), 1) := by decide +kernel
theorem dX7_addSetup_15 : decode cX7_addSetup 15 = .ok (.ireturn, 1) := by decide +kernel
theorem dX7_addSetup_16 : decode cX7_addSetup 16 = .ok (.iconst 0, 1) := by decide +kernel
theorem dX7_addSetup_17 : decode cX7_addSetup 17 = .ok (.iload_n 2, 1) := by decide +kernel
theorem dX7_addSetup_18 : decode cX7_addSetup 18 = .ok (.invokestatic 305, 3) := by decide +kernel
theorem dX7_addSetup_21 : decode cX7_addSetup 21 = .ok (.ifCond .eq 29, 3) := by decide +kernel
theorem dX7_addSetup_24 : decode cX7_addSetup 24 = .ok (.iconst 1, 1) := by decide +kernel
theorem dX7_addSetup_25 : decode cX7_addSetup 25 = .ok (.iload_n 3, 1) := by decide +kernel
theorem dX7_addSetup_26 : decode cX7_addSetup 26 = .ok (.invokestatic 305, 3) := by decide +kernel
theorem dX7_addSetup_29 : decode cX7_addSetup 29 = .ok (.ifCond .eq 21, 3) := by decide +kernel
theorem dX7_addSetup_32 : decode cX7_addSetup 32 = .ok (.iconst 2, 1) := by decide +kernel
theorem dX7_addSetup_33 : decode cX7_addSetup 33 = .ok (.iload 4, 2) := by decide +kernel
theorem dX7_addSetup_35 : decode cX7_addSetup 35 = .ok (.invokestatic 305, 3) := by decide +kernel
theorem dX7_addSetup_38 : decode cX7_addSetup 38 = .ok (.ifCond .eq 12, 3) := by decide +kernel
theorem dX7_addSetup_41 : decode cX7_addSetup 41 = .ok (.iconst 3, 1) := by decide +kernel
theorem dX7_addSetup_42 : decode cX7_addSetup 42 = .ok (.iload 5, 2) := by decide +kernel
theorem dX7_addSetup_44 : decode cX7_addSetup 44 = .ok (.invokestatic 305, 3) := by decide +kernel
theorem dX7_addSetup_47 : decode cX7_addSetup 47 = .ok (.ifCond .ne 6, 3) := by decide +kernel
theorem dX7_addSetup_50 : decode cX7_addSetup 50 = .ok (.bipush (-2), 2) := by decide +kernel
theorem dX7_addSetup_52 : decode cX7_addSetup 52 = .ok (.ireturn, 1) := by decide +kernel
theorem dX7_addSetup_53 : decode cX7_addSetup 53 = .ok (.aload_n 0, 1) := by decide +kernel
theorem dX7_addSetup_54 : decode cX7_addSetup 54 = .ok (.getfield 51, 3) := by decide +kernel
theorem dX7_addSetup_57 : decode cX7_addSetup 57 = .ok (.getfield 139, 3) := by decide +kernel
theorem dX7_addSetup_60 : decode cX7_addSetup 60 = .ok (.iload_n 1, 1) := by decide +kernel
theorem dX7_addSetup_61 : decode cX7_addSetup 61 = .ok (.iaload, 1) := by decide +kernel
theorem dX7_addSetup_62 : decode cX7_addSetup 62 = .ok (.istore 6, 2) := by decide +kernel
theorem dX7_addSetup_64 : decode cX7_addSetup 64 = .ok (.iload 6, 2) := by decide +kernel
theorem dX7_addSetup_66 : decode cX7_addSetup 66 = .ok (.bipush 8, 2) := by decide +kernel
theorem dX7_addSetup_68 : decode cX7_addSetup 68 = .ok (.if_icmp .lt 6, 3) := by decide +kernel
theorem dX7_addSetup_71 : decode cX7_addSetup 71 = .ok (.bipush (-3), 2) := by decide +kernel
theorem dX7_addSetup_73 : decode cX7_addSetup 73 = .ok (.ireturn, 1) := by decide +kernel
theorem dX7_addSetup_74 : decode cX7_addSetup 74 = .ok (.aload_n 0, 1) := by decide +kernel
theorem dX7_addSetup_75 : decode cX7_addSetup 75 = .ok (.iconst 2, 1) := by decide +kernel
theorem dX7_addSetup_76 : decode cX7_addSetup 76 = .ok (.iload_n 1, 1) := by decide +kernel
theorem dX7_addSetup_77 : decode cX7_addSetup 77 = .ok (.iload 6, 2) := by decide +kernel
theorem dX7_addSetup_79 : decode cX7_addSetup 79 = .ok (.invokevirtual 298, 3) := by decide +kernel
theorem dX7_addSetup_82 : decode cX7_addSetup 82 = .ok (.aload_n 0, 1) := by decide +kernel
theorem dX7_addSetup_83 : decode cX7_addSetup 83 = .ok (.getfield 51, 3) := by decide +kernel
theorem dX7_addSetup_86 : decode cX7_addSetup 86 = .ok (.iload_n 1, 1) := by decide +kernel
theorem dX7_addSetup_87 : decode cX7_addSetup 87 = .ok (.iload 6, 2) := by decide +kernel
theorem dX7_addSetup_89 : decode cX7_addSetup 89 = .ok (.invokevirtual 158, 3) := by decide +kernel
theorem dX7_addSetup_92 : decode cX7_addSetup 92 = .ok (.istore 7, 2) := by decide +kernel
theorem dX7_addSetup_94 : decode cX7_addSetup 94 = .ok (.aload_n 0, 1) := by decide +kernel
theorem dX7_addSetup_95 : decode cX7_addSetup 95 = .ok (.getfield 51, 3) := by decide +kernel
theorem dX7_addSetup_98 : decode cX7_addSetup 98 = .ok (.getfield 155, 3) := by decide +kernel
theorem dX7_addSetup_101 : decode cX7_addSetup 101 = .ok (.iload 7, 2) := by decide +kernel
theorem dX7_addSetup_103 : decode cX7_addSetup 103 = .ok (.iconst 0, 1) := by decide +kernel
theorem dX7_addSetup_104 : decode cX7_addSetup 104 = .ok (.iadd, 1) := by decide +kernel
theorem dX7_addSetup_105 : decode cX7_addSetup 105 = .ok (.iload_n 2, 1) := by decide +kernel
theorem dX7_addSetup_106 : decode cX7_addSetup 106 = .ok (.iastore, 1) := by decide +kernel
theorem dX7_addSetup_107 : decode cX7_addSetup 107 = .ok (.aload_n 0, 1) := by decide +kernel
theorem dX7_addSetup_108 : decode cX7_addSetup 108 = .ok (.getfield 51, 3) := by decide +kernel
theorem dX7_addSetup_111 : decode cX7_addSetup 111 = .ok (.getfield 155, 3) := by decide +kernel
theorem dX7_addSetup_114 : decode cX7_addSetup 114 = .ok (.iload 7, 2) := by decide +kernel
theorem dX7_addSetup_116 : decode cX7_addSetup 116 = .ok (.iconst 1, 1) := by decide +kernel
theorem dX7_addSetup_117 : decode cX7_addSetup 117 = .ok (.iadd, 1) := by decide +kernel
theorem dX7_addSetup_118 : decode cX7_addSetup 118 = .ok (.iload_n 3, 1) := by decide +kernel
theorem dX7_addSetup_119 : decode cX7_addSetup 119 = .ok (.iastore, 1) := by decide +kernel
theorem dX7_addSetup_120 : decode cX7_addSetup 120 = .ok (.aload_n 0, 1) := by decide +kernel
theorem dX7_addSetup_121 : decode cX7_addSetup 121 = .ok (.getfield 51, 3) := by decide +kernel
theorem dX7_addSetup_124 : decode cX7_addSetup 124 = .ok (.getfield 155, 3) := by decide +kernel
theorem dX7_addSetup_127 : decode cX7_addSetup 127 = .ok (.iload 7, 2) := by decide +kernel
theorem dX7_addSetup_129 : decode cX7_addSetup 129 = .ok (.iconst 2, 1) := by decide +kernel
theorem dX7_addSetup_130 : decode cX7_addSetup 130 = .ok (.iadd, 1) := by decide +kernel
theorem dX7_addSetup_131 : decode cX7_addSetup 131 = .ok (.iload 4, 2) := by decide +kernel
theorem dX7_addSetup_133 : decode cX7_addSetup 133 = .ok (.iastore, 1) := by decide +kernel
theorem dX7_addSetup_134 : decode cX7_addSetup 134 = .ok (.aload_n 0, 1) := by decide +kernel
theorem dX7_addSetup_135 : decode cX7_addSetup 135 = .ok (.getfield 51, 3) := by decide +kernel
theorem dX7_addSetup_138 : decode cX7_addSetup 138 = .ok (.getfield 155, 3) := by decide +kernel
theorem dX7_addSetup_141 : decode cX7_addSetup 141 = .ok (.iload 7, 2) := by decide +kernel
theorem dX7_addSetup_143 : decode cX7_addSetup 143 = .ok (.iconst 3, 1) := by decide +kernel
theorem dX7_addSetup_144 : decode cX7_addSetup 144 = .ok (.iadd, 1) := by decide +kernel
theorem dX7_addSetup_145 : decode cX7_addSetup 145 = .ok (.iload 5, 2) := by decide +kernel
theorem dX7_addSetup_147 : decode cX7_addSetup 147 = .ok (.iastore, 1) := by decide +kernel
theorem dX7_addSetup_148 : decode cX7_addSetup 148 = .ok (.aload_n 0, 1) := by decide +kernel
theorem dX7_addSetup_149 : decode cX7_addSetup 149 = .ok (.getfield 51, 3) := by decide +kernel
theorem dX7_addSetup_152 : decode cX7_addSetup 152 = .ok (.getfield 139, 3) := by decide +kernel
theorem dX7_addSetup_155 : decode cX7_addSetup 155 = .ok (.iload_n 1, 1) := by decide +kernel
theorem dX7_addSetup_156 : decode cX7_addSetup 156 = .ok (.iload 6, 2) := by decide +kernel
theorem dX7_addSetup_158 : decode cX7_addSetup 158 = .ok (.iconst 1, 1) := by decide +kernel
theorem dX7_addSetup_159 : decode cX7_addSetup 159 = .ok (.iadd, 1) := by decide +kernel
theorem dX7_addSetup_160 : decode cX7_addSetup 160 = .ok (.iastore, 1) := by decide +kernel
theorem dX7_addSetup_161 : decode cX7_addSetup 161 = .ok (.iload 6, 2) := by decide +kernel
theorem dX7_addSetup_163 : decode cX7_addSetup 163 = .ok (.iconst 1, 1) := by decide +kernel
theorem dX7_addSetup_164 : decode cX7_addSetup 164 = .ok (.iadd, 1) := by decide +kernel
theorem dX7_addSetup_165 : decode cX7_addSetup 165 = .ok (.ireturn, 1) := by decide +kernel
theorem dX7_setActive_0 : decode cX7_setActive 0 = .ok (.iload_n 1, 1) := by decide +kernel
theorem dX7_setActive_1 : decode cX7_setActive 1 = .ok (.aload_n 0, 1) := by decide +kernel
theorem dX7_setActive_2 : decode cX7_setActive 2 = .ok (.getfield 51, 3) := by decide +kernel
theorem dX7_setActive_5 : decode cX7_setActive 5 = .ok (.getfield 89, 3) := by decide +kernel
theorem dX7_setActive_8 : decode cX7_setActive 8 = .ok (.invokestatic 102, 3) := by decide +kernel
theorem dX7_setActive_11 : decode cX7_setActive 11 = .ok (.ifCond .ne 5, 3) := by decide +kernel
theorem dX7_setActive_14 : decode cX7_setActive 14 = .ok (.iconst (-1), 1) := by decide +kernel
theorem dX7_setActive_15 : decode cX7_setActive 15 = .ok (.ireturn, 1) := by decide +kernel
theorem dX7_setActive_16 : decode cX7_setActive 16 = .ok (.aload_n 0, 1) := by decide +kernel
theorem dX7_setActive_17 : decode cX7_setActive 17 = .ok (.iconst 3, 1) := by decide +kernel
theorem dX7_setActive_18 : decode cX7_setActive 18 = .ok (.iload_n 1, 1) := by decide +kernel
theorem dX7_setActive_19 : decode cX7_setActive 19 = .ok (.aload_n 0, 1) := by decide +kernel
theorem dX7_setActive_20 : decode cX7_setActive 20 = .ok (.getfield 51, 3) := by decide +kernel
theorem dX7_setActive_23 : decode cX7_setActive 23 = .ok (.getfield 195, 3) := by decide +kernel
theorem dX7_setActive_26 : decode cX7_setActive 26 = .ok (.invokevirtual 298, 3) := by decide +kernel
theorem dX7_setActive_29 : decode cX7_setActive 29 = .ok (.iload_n 2, 1) := by decide +kernel
theorem dX7_setActive_30 : decode cX7_setActive 30 = .ok (.ifCond .eq 21, 3) := by decide +kernel
theorem dX7_setActive_33 : decode cX7_setActive 33 = .ok (.aload_n 0, 1) := by decide +kernel
theorem dX7_setActive_34 : decode cX7_setActive 34 = .ok (.getfield 51, 3) := by decide +kernel
theorem dX7_setActive_37 : decode cX7_setActive 37 = .ok (.dup, 1) := by decide +kernel
theorem dX7_setActive_38 : decode cX7_setActive 38 = .ok (.getfield 195, 3) := by decide +kernel
theorem dX7_setActive_41 : decode cX7_setActive 41 = .ok (.iconst 1, 1) := by decide +kernel
theorem dX7_setActive_42 : decode cX7_setActive 42 = .ok (.iload_n 1, 1) := by decide +kernel
theorem dX7_setActive_43 : decode cX7_setActive 43 = .ok (.ishl, 1) := by decide +kernel
theorem dX7_setActive_44 : decode cX7_setActive 44 = .ok (.ior, 1) := by decide +kernel
theorem dX7_setActive_45 : decode cX7_setActive 45 = .ok (.putfield 195, 3) := by decide +kernel
theorem dX7_setActive_48 : decode cX7_setActive 48 = .ok (.goto 20, 3) := by decide +kernel
theorem dX7_setActive_51 : decode cX7_setActive 51 = .ok (.aload_n 0, 1) := by decide +kernel
theorem dX7_setActive_52 : decode cX7_setActive 52 = .ok (.getfield 51, 3) := by decide +kernel
theorem dX7_setActive_55 : decode cX7_setActive 55 = .ok (.dup, 1) := by decide +kernel
theorem dX7_setActive_56 : decode cX7_setActive 56 = .ok (.getfield 195, 3) := by decide +kernel
theorem dX7_setActive_59 : decode cX7_setActive 59 = .ok (.iconst 1, 1) := by decide +kernel
theorem dX7_setActive_60 : decode cX7_setActive 60 = .ok (.iload_n 1, 1) := by decide +kernel
theorem dX7_setActive_61 : decode cX7_setActive 61 = .ok (.ishl, 1) := by decide +kernel
theorem dX7_setActive_62 : decode cX7_setActive 62 = .ok (.iconst (-1), 1) := by decide +kernel
theorem dX7_setActive_63 : decode cX7_setActive 63 = .ok (.ixor, 1) := by decide +kernel
theorem dX7_setActive_64 : decode cX7_setActive 64 = .ok (.iand, 1) := by decide +kernel
theorem dX7_setActive_65 : decode cX7_setActive 65 = .ok (.putfield 195, 3) := by decide +kernel
theorem dX7_setActive_68 : decode cX7_setActive 68 = .ok (.aload_n 0, 1) := by decide +kernel
theorem dX7_setActive_69 : decode cX7_setActive 69 = .ok (.invokevirtual 242, 3) := by decide +kernel
theorem dX7_setActive_72 : decode cX7_setActive 72 = .ok (.ireturn, 1) := by decide +kernel
theorem dX7_changeCollimation_0 : decode cX7_changeCollimation 0 = .ok (.aload_n 0, 1) := by decide +kernel
theorem dX7_changeCollimation_1 : decode cX7_changeCollimation 1 = .ok (.getfield 51, 3) := by decide +kernel
theorem dX7_changeCollimation_4 : decode cX7_changeCollimation 4 = .ok (.getfield 114, 3) := by decide +kernel
theorem dX7_changeCollimation_7 : decode cX7_changeCollimation 7 = .ok (.iload_n 1, 1) := by decide +kernel
theorem dX7_changeCollimation_8 : decode cX7_changeCollimation 8 = .ok (.iaload, 1) := by decide +kernel
theorem dX7_changeCollimation_9 : decode cX7_changeCollimation 9 = .ok (.istore_n 3, 1) := by decide +kernel
theorem dX7_changeCollimation_10 : decode cX7_changeCollimation 10 = .ok (.aload_n 0, 1) := by decide +kernel
theorem dX7_changeCollimation_11 : decode cX7_changeCollimation 11 = .ok (.iconst 4, 1) := by decide +kernel
theorem dX7_changeCollimation_12 : decode cX7_changeCollimation 12 = .ok (.iload_n 1, 1) := by decide +kernel
theorem dX7_changeCollimation_13 : decode cX7_changeCollimation 13 = .ok (.iload_n 3, 1) := by decide +kernel
theorem dX7_changeCollimation_14 : decode cX7_changeCollimation 14 = .ok (.invokevirtual 298, 3) := by decide +kernel
theorem dX7_changeCollimation_17 : decode cX7_changeCollimation 17 = .ok (.aload_n 0, 1) := by decide +kernel
theorem dX7_changeCollimation_18 : decode cX7_changeCollimation 18 = .ok (.getfield 51, 3) := by decide +kernel
theorem dX7_changeCollimation_21 : decode cX7_changeCollimation 21 = .ok (.getfield 114, 3) := by decide +kernel
theorem dX7_changeCollimation_24 : decode cX7_changeCollimation 24 = .ok (.iload_n 1, 1) := by decide +kernel
theorem dX7_changeCollimation_25 : decode cX7_changeCollimation 25 = .ok (.iload_n 2, 1) := by decide +kernel
theorem dX7_changeCollimation_26 : decode cX7_changeCollimation 26 = .ok (.iastore, 1) := by decide +kernel
theorem dX7_changeCollimation_27 : decode cX7_changeCollimation 27 = .ok (.iload_n 3, 1) := by decide +kernel
theorem dX7_changeCollimation_28 : decode cX7_changeCollimation 28 = .ok (.ireturn, 1) := by decide +kernel
theorem dX7_setCollimation_0 : decode cX7_setCollimation 0 = .ok (.iload_n 1, 1) := by decide +kernel
theorem dX7_setCollimation_1 : decode cX7_setCollimation 1 = .ok (.aload_n 0, 1) := by decide +kernel
theorem dX7_setCollimation_2 : decode cX7_setCollimation 2 = .ok (.getfield 51, 3) := by decide +kernel
theorem dX7_setCollimation_5 : decode cX7_setCollimation 5 = .ok (.getfield 83, 3) := by decide +kernel
theorem dX7_setCollimation_8 : decode cX7_setCollimation 8 = .ok (.invokestatic 102, 3) := by decide +kernel
theorem dX7_setCollimation_11 : decode cX7_setCollimation 11 = .ok (.ifCond .eq 17, 3) := by decide +kernel
theorem dX7_setCollimation_14 : decode cX7_setCollimation 14 = .ok (.iload_n 2, 1) := by decide +kernel
theorem dX7_setCollimation_15 : decode cX7_setCollimation 15 = .ok (.sipush (-200), 3) := by decide +kernel
theorem dX7_setCollimation_18 : decode cX7_setCollimation 18 = .ok (.if_icmp .lt 10, 3) := by decide +kernel
theorem dX7_setCollimation_21 : decode cX7_setCollimation 21 = .ok (.iload_n 2, 1) := by decide +kernel
theorem dX7_setCollimation_22 : decode cX7_setCollimation 22 = .ok (.sipush 200, 3) := by decide +kernel
theorem dX7_setCollimation_25 : decode cX7_setCollimation 25 = .ok (.if_icmp .le 6, 3) := by decide +kernel
theorem dX7_setCollimation_28 : decode cX7_setCollimation 28 = .ok (.ldc 126, 2) := by decide +kernel
theorem dX7_setCollimation_30 : decode cX7_setCollimation 30 = .ok (.ireturn, 1) := by decide +kernel
theorem dX7_setCollimation_31 : decode cX7_setCollimation 31 = .ok (.aload_n 0, 1) := by decide +kernel
theorem dX7_setCollimation_32 : decode cX7_setCollimation 32 = .ok (.iload_n 1, 1) := by decide +kernel
theorem dX7_setCollimation_33 : decode cX7_setCollimation 33 = .ok (.iload_n 2, 1) := by decide +kernel
theorem dX7_setCollimation_34 : decode cX7_setCollimation 34 = .ok (.invokevirtual 308, 3) := by decide +kernel
theorem dX7_setCollimation_37 : decode cX7_setCollimation 37 = .ok (.ireturn, 1) := by decide +kernel
theorem dX7_adjust_0 : decode cX7_adjust 0 = .ok (.iload_n 1, 1) := by decide +kernel
theorem dX7_adjust_1 : decode cX7_adjust 1 = .ok (.iconst 1, 1) := by decide +kernel
theorem dX7_adjust_2 : decode cX7_adjust 2 = .ok (.if_icmp .lt 10, 3) := by decide +kernel
theorem dX7_adjust_5 : decode cX7_adjust 5 = .ok (.iload_n 1, 1) := by decide +kernel
theorem dX7_adjust_6 : decode cX7_adjust 6 = .ok (.sipush 200, 3) := by decide +kernel
theorem dX7_adjust_9 : decode cX7_adjust 9 = .ok (.if_icmp .le 6, 3) := by decide +kernel
theorem dX7_adjust_12 : decode cX7_adjust 12 = .ok (.bipush (-2), 2) := by decide +kernel
theorem dX7_adjust_14 : decode cX7_adjust 14 = .ok (.ireturn, 1) := by decide +kernel
theorem dX7_adjust_15 : decode cX7_adjust 15 = .ok (.aload_n 0, 1) := by decide +kernel
theorem dX7_adjust_16 : decode cX7_adjust 16 = .ok (.bipush 6, 2) := by decide +kernel
theorem dX7_adjust_18 : decode cX7_adjust 18 = .ok (.iconst 0, 1) := by decide +kernel
theorem dX7_adjust_19 : decode cX7_adjust 19 = .ok (.iconst 0, 1) := by decide +kernel
theorem dX7_adjust_20 : decode cX7_adjust 20 = .ok (.invokevirtual 298, 3) := by decide +kernel
theorem dX7_adjust_23 : decode cX7_adjust 23 = .ok (.aload_n 0, 1) := by decide +kernel
theorem dX7_adjust_24 : decode cX7_adjust 24 = .ok (.getfield 37, 3) := by decide +kernel
theorem dX7_adjust_27 : decode cX7_adjust 27 = .ok (.aload_n 0, 1) := by decide +kernel
theorem dX7_adjust_28 : decode cX7_adjust 28 = .ok (.getfield 51, 3) := by decide +kernel
theorem dX7_adjust_31 : decode cX7_adjust 31 = .ok (.iload_n 1, 1) := by decide +kernel
theorem dX7_adjust_32 : decode cX7_adjust 32 = .ok (.invokevirtual 311, 3) := by decide +kernel
theorem dX7_adjust_35 : decode cX7_adjust 35 = .ok (.ireturn, 1) := by decide +kernel
def f_X7_feed (p1 : Int32) (p2 : Int32) (p3 : Int32) (p4 : Int32) (p5 : Int32) (μ : gM) : Option (Int32 × gM) :=
  if (((gi μ 1 1) + (20 : Int32)) ≤ (1200 : Int32)) then Option.bind (f_X4_append p1 μ) (fun q2 => Option.bind (f_X4_append p2 q2) (fun q3 => Option.bind (f_X4_append p3 q3) (fun q4 => Option.bind (f_X4_append p4 q4) (fun q5 => Option.bind (f_X4_append p5 q5) (fun q6 => some ((gi q6 1 1), q6)))))) else some ((-3 : Int32), μ)
set_option maxHeartbeats 4000000 in
set_option maxRecDepth 100000 in
theorem c_X7_feed {l : Launch} {D : va_G} {cy : Nat → ClassId} {ad : Nat → Nat} {base : gBs} {p1 : Int32} {p2 : Int32} {p3 : Int32} {p4 : Int32} {p5 : Int32} {μ : gM} {RES : Int32 × gM} (h : f_X7_feed p1 p2 p3 p4 p5 μ = some RES) : Met l yX7_feed [.code yX7_feed cX7_feed 6 (some .int)] ({ frames := 1, cells := 0, slots := 0, locals := 22 } : Room) (va_Pc [.ref (ad 0), .int p1, .int p2, .int p3, .int p4, .int p5] (gB l gFull D cy ad base μ)) (gQ (some (.int RES.1)) gFull D cy ad base RES.2) 0 0 (gA base) := by
  refine Met.ofW (cc := cX7_feed) (maxL := 6) (ret := (some .int)) (by decide) rfl ?_
  intro p e s m args below meth c s₁ B hml0 hv
  obtain ⟨rfl, E, hM⟩ := hv
  have F : gF p s m meth c cX7_feed RX7 6 (some .int) := gF_of B hml0
  obtain ⟨hx, hb, hml, hown, hlocks, hr⟩ := id F
  have hS : va_S (gA base) s.heap s.heap [] := va_S.rf
  have hl := lv_entry ([.ref (ad 0), .int p1, .int p2, .int p3, .int p4, .int p5]) (n := 6) (Nat.le_of_ble_eq_true rfl)
  rw [lg_entry_eq]
  generalize (lg_sl ([.ref (ad 0), .int p1, .int p2, .int p3, .int p4, .int p5]) ++ List.replicate (6 - (lg_sl ([.ref (ad 0), .int p1, .int p2, .int p3, .int p4, .int p5])).length) Slot.unset).toArray = ls at hl ⊢
  have hl : lv_has ls 6 [(0, .ref (ad 0)), (1, .int p1), (2, .int p2), (3, .int p3), (4, .int p4), (5, .int p5)] := hl
  unfold f_X7_feed at h
  refine lv_aload_n hx hb dX7_feed_0 rfl (lv_at hl 0 rfl) ?_
  refine gg_0_0 hx hb hown E hM hk_0 kw_486 dX7_feed_1 ?_
  refine gg_1_1 hx hb hown E hM hk_1 kw_175 dX7_feed_4 ?_
  refine lv_bipush (v := (20 : Int32)) hx hb dX7_feed_7 (by decide) ?_
  refine lv_iadd hx hb dX7_feed_9 ?_
  refine lv_sipush (v := (1200 : Int32)) hx hb dX7_feed_10 (by decide) ?_
  refine lv_icmp_le (tgt := 19) hx hb dX7_feed_13 (by decide) (fun c1 => ?_) (fun c1 => ?_)
  · replace h := gif_t c1 h
    refine lv_aload_n hx hb dX7_feed_19 rfl (lv_at hl 0 rfl) ?_
    refine gg_0_0 hx hb hown E hM hk_0 kw_486 dX7_feed_20 ?_
    refine lv_iload_n hx hb dX7_feed_23 rfl (lv_at hl 1 rfl) ?_
    obtain ⟨q2, hq2, h⟩ := gbind_e h
    refine g_callV (As := [.int p1]) (rest := []) hx hb (hml.trans hl.1.symm) hown E hM hS hy_X4_append kw_906 (c_X4_append hq2) hk_1 dd_1 rfl rfl rfl (Nat.le_of_ble_eq_true rfl) ⟨Nat.le_of_ble_eq_true rfl, Nat.le_of_ble_eq_true rfl⟩ ⟨Nat.le_of_ble_eq_true rfl, Nat.le_of_ble_eq_true rfl⟩ dX7_feed_24 (fun H locs hM hS => ?_)
    refine lv_aload_n hx hb dX7_feed_27 rfl (lv_at hl 0 rfl) ?_
    refine gg_0_0 hx hb hown E hM hk_0 kw_486 dX7_feed_28 ?_
    refine lv_iload_n hx hb dX7_feed_31 rfl (lv_at hl 2 rfl) ?_
    obtain ⟨q3, hq3, h⟩ := gbind_e h
    refine g_callV (As := [.int p2]) (rest := []) hx hb (hml.trans hl.1.symm) hown E hM hS hy_X4_append kw_906 (c_X4_append hq3) hk_1 dd_1 rfl rfl rfl (Nat.le_of_ble_eq_true rfl) ⟨Nat.le_of_ble_eq_true rfl, Nat.le_of_ble_eq_true rfl⟩ ⟨Nat.le_of_ble_eq_true rfl, Nat.le_of_ble_eq_true rfl⟩ dX7_feed_32 (fun H locs hM hS => ?_)
    refine lv_aload_n hx hb dX7_feed_35 rfl (lv_at hl 0 rfl) ?_
    refine gg_0_0 hx hb hown E hM hk_0 kw_486 dX7_feed_36 ?_
    refine lv_iload_n hx hb dX7_feed_39 rfl (lv_at hl 3 rfl) ?_
    obtain ⟨q4, hq4, h⟩ := gbind_e h
    refine g_callV (As := [.int p3]) (rest := []) hx hb (hml.trans hl.1.symm) hown E hM hS hy_X4_append kw_906 (c_X4_append hq4) hk_1 dd_1 rfl rfl rfl (Nat.le_of_ble_eq_true rfl) ⟨Nat.le_of_ble_eq_true rfl, Nat.le_of_ble_eq_true rfl⟩ ⟨Nat.le_of_ble_eq_true rfl, Nat.le_of_ble_eq_true rfl⟩ dX7_feed_40 (fun H locs hM hS => ?_)
    refine lv_aload_n hx hb dX7_feed_43 rfl (lv_at hl 0 rfl) ?_
    refine gg_0_0 hx hb hown E hM hk_0 kw_486 dX7_feed_44 ?_
    refine lv_iload hx hb dX7_feed_47 (lv_at hl 4 rfl) ?_
    obtain ⟨q5, hq5, h⟩ := gbind_e h
    refine g_callV (As := [.int p4]) (rest := []) hx hb (hml.trans hl.1.symm) hown E hM hS hy_X4_append kw_906 (c_X4_append hq5) hk_1 dd_1 rfl rfl rfl (Nat.le_of_ble_eq_true rfl) ⟨Nat.le_of_ble_eq_true rfl, Nat.le_of_ble_eq_true rfl⟩ ⟨Nat.le_of_ble_eq_true rfl, Nat.le_of_ble_eq_true rfl⟩ dX7_feed_49 (fun H locs hM hS => ?_)
    refine lv_aload_n hx hb dX7_feed_52 rfl (lv_at hl 0 rfl) ?_
    refine gg_0_0 hx hb hown E hM hk_0 kw_486 dX7_feed_53 ?_
    refine lv_iload hx hb dX7_feed_56 (lv_at hl 5 rfl) ?_
    obtain ⟨q6, hq6, h⟩ := gbind_e h
    refine g_callV (As := [.int p5]) (rest := []) hx hb (hml.trans hl.1.symm) hown E hM hS hy_X4_append kw_906 (c_X4_append hq6) hk_1 dd_1 rfl rfl rfl (Nat.le_of_ble_eq_true rfl) ⟨Nat.le_of_ble_eq_true rfl, Nat.le_of_ble_eq_true rfl⟩ ⟨Nat.le_of_ble_eq_true rfl, Nat.le_of_ble_eq_true rfl⟩ dX7_feed_58 (fun H locs hM hS => ?_)
    refine lv_aload_n hx hb dX7_feed_61 rfl (lv_at hl 0 rfl) ?_
    refine gg_0_0 hx hb hown E hM hk_0 kw_486 dX7_feed_62 ?_
    refine gg_1_1 hx hb hown E hM hk_1 kw_175 dX7_feed_65 ?_
    obtain rfl := Option.some.inj h
    exact g_iret hx hb hr hlocks hM hS dX7_feed_68
  · replace h := gif_f c1 h
    refine lv_bipush (v := (-3 : Int32)) hx hb dX7_feed_16 (by decide) ?_
    obtain rfl := Option.some.inj h
    exact g_iret hx hb hr hlocks hM hS dX7_feed_18
def f_X7_needIndex (p1 : Int32) (p2 : Int32) (μ : gM) : Option (Unit) :=
  Option.bind (f_X7_isIndex p1 p2 μ) (fun q1 => if ((b2i q1) = 0) then none else some ())
set_option maxHeartbeats 4000000 in
set_option maxRecDepth 100000 in
theorem c_X7_needIndex {l : Launch} {D : va_G} {cy : Nat → ClassId} {ad : Nat → Nat} {base : gBs} {p1 : Int32} {p2 : Int32} {μ : gM} {RES : Unit} (h : f_X7_needIndex p1 p2 μ = some RES) : Met l yX7_needIndex [.code yX7_needIndex cX7_needIndex 2 none] ({ frames := 1, cells := 0, slots := 0, locals := 21 } : Room) (va_Pc [.int p1, .int p2] (gB l gFull D cy ad base μ)) (gQ none gFull D cy ad base μ) 0 0 (gA base) := by
  refine Met.ofW (cc := cX7_needIndex) (maxL := 2) (ret := none) (by decide) rfl ?_
  intro p e s m args below meth c s₁ B hml0 hv
  obtain ⟨rfl, E, hM⟩ := hv
  have F : gF p s m meth c cX7_needIndex RX7 2 none := gF_of B hml0
  obtain ⟨hx, hb, hml, hown, hlocks, hr⟩ := id F
  have hS : va_S (gA base) s.heap s.heap [] := va_S.rf
  have hl := lv_entry ([.int p1, .int p2]) (n := 2) (Nat.le_of_ble_eq_true rfl)
  rw [lg_entry_eq]
  generalize (lg_sl ([.int p1, .int p2]) ++ List.replicate (2 - (lg_sl ([.int p1, .int p2])).length) Slot.unset).toArray = ls at hl ⊢
  have hl : lv_has ls 2 [(0, .int p1), (1, .int p2)] := hl
  unfold f_X7_needIndex at h
  refine lv_iload_n hx hb dX7_needIndex_0 rfl (lv_at hl 0 rfl) ?_
  refine lv_iload_n hx hb dX7_needIndex_1 rfl (lv_at hl 1 rfl) ?_
  obtain ⟨q1, hq1, h⟩ := gbind_e h
  refine g_callS (As := [.int p1, .int p2]) (rest := []) hx hb (hml.trans hl.1.symm) hown E hM hS hy_X7_isIndex kw_1077 (c_X7_isIndex hq1) rfl rfl (Nat.le_of_ble_eq_true rfl) ⟨Nat.le_of_ble_eq_true rfl, Nat.le_of_ble_eq_true rfl⟩ ⟨Nat.le_of_ble_eq_true rfl, Nat.le_of_ble_eq_true rfl⟩ dX7_needIndex_2 (fun H locs hM hS => ?_)
  refine lv_if_ne (tgt := 19) hx hb dX7_needIndex_5 (by decide) (fun c2 => ?_) (fun c2 => ?_)
  · replace h := gif_f c2 h
    obtain rfl := Option.some.inj h
    exact g_vret hx hb hr hlocks hM hS dX7_needIndex_19
  · replace h := gif_t c2 h
    cases h
def f_X7_heldAt (p1 : Int32) (μ : gM) : Option (Int32) :=
  Option.bind (f_X7_needIndex p1 (gi μ 34 1) μ) (fun q1 => gchk (gIn p1 16) (some (gi μ 39 p1.toNatClampNeg)))
set_option maxHeartbeats 4000000 in
set_option maxRecDepth 100000 in
theorem c_X7_heldAt {l : Launch} {D : va_G} {cy : Nat → ClassId} {ad : Nat → Nat} {base : gBs} {p1 : Int32} {μ : gM} {RES : Int32} (h : f_X7_heldAt p1 μ = some RES) : Met l yX7_heldAt [.code yX7_heldAt cX7_heldAt 2 (some .int)] ({ frames := 2, cells := 0, slots := 0, locals := 42 } : Room) (va_Pc [.ref (ad 0), .int p1] (gB l gFull D cy ad base μ)) (gQ (some (.int RES)) gFull D cy ad base μ) 0 0 (gA base) := by
  refine Met.ofW (cc := cX7_heldAt) (maxL := 2) (ret := (some .int)) (by decide) rfl ?_
  intro p e s m args below meth c s₁ B hml0 hv
  obtain ⟨rfl, E, hM⟩ := hv
  have F : gF p s m meth c cX7_heldAt RX7 2 (some .int) := gF_of B hml0
  obtain ⟨hx, hb, hml, hown, hlocks, hr⟩ := id F
  have hS : va_S (gA base) s.heap s.heap [] := va_S.rf
  have hl := lv_entry ([.ref (ad 0), .int p1]) (n := 2) (Nat.le_of_ble_eq_true rfl)
  rw [lg_entry_eq]
  generalize (lg_sl ([.ref (ad 0), .int p1]) ++ List.replicate (2 - (lg_sl ([.ref (ad 0), .int p1])).length) Slot.unset).toArray = ls at hl ⊢
  have hl : lv_has ls 2 [(0, .ref (ad 0)), (1, .int p1)] := hl
  unfold f_X7_heldAt at h
  refine lv_iload_n hx hb dX7_heldAt_0 rfl (lv_at hl 1 rfl) ?_
  refine lv_aload_n hx hb dX7_heldAt_1 rfl (lv_at hl 0 rfl) ?_
  refine gg_0_5 hx hb hown E hM hk_0 kw_491 dX7_heldAt_2 ?_
  refine gg_34_1 hx hb hown E hM hk_34 kw_397 dX7_heldAt_5 ?_
  obtain ⟨q1, hq1, h⟩ := gbind_e h
  refine g_callS (As := [.int p1, .int (gi μ 34 1)]) (rest := []) hx hb (hml.trans hl.1.symm) hown E hM hS hy_X7_needIndex kw_1074 (c_X7_needIndex hq1) rfl rfl (Nat.le_of_ble_eq_true rfl) ⟨Nat.le_of_ble_eq_true rfl, Nat.le_of_ble_eq_true rfl⟩ ⟨Nat.le_of_ble_eq_true rfl, Nat.le_of_ble_eq_true rfl⟩ dX7_heldAt_8 (fun H locs hM hS => ?_)
  refine lv_aload_n hx hb dX7_heldAt_11 rfl (lv_at hl 0 rfl) ?_
  refine gg_0_5 hx hb hown E hM hk_0 kw_491 dX7_heldAt_12 ?_
  refine gg_34_9 hx hb hown E hM hk_34 kw_425 dX7_heldAt_15 ?_
  refine lv_iload_n hx hb dX7_heldAt_18 rfl (lv_at hl 1 rfl) ?_
  obtain ⟨c2, h⟩ := gchk_e h
  refine g_iald hx hb E hM hk_39 dd_39 c2 dX7_heldAt_19 ?_
  obtain rfl := Option.some.inj h
  exact g_iret hx hb hr hlocks hM hS dX7_heldAt_20
def f_X7_lineProperty (p1 : Int32) (p2 : Int32) (μ : gM) : Option (Int32) :=
  Option.bind (f_X7_needIndex p1 (gi μ 34 2) μ) (fun q1 => if p2 = 0 then gchk (gIn p1 20) (some (gi μ 40 p1.toNatClampNeg)) else if p2 = 1 then gchk (gIn p1 20) (some (gi μ 41 p1.toNatClampNeg)) else if p2 = 2 then gchk (gIn p1 20) (some (gi μ 42 p1.toNatClampNeg)) else if p2 = 3 then gchk (gIn p1 20) (some (gi μ 43 p1.toNatClampNeg)) else if p2 = 4 then Option.bind (f_X3_isActive p1 μ) (fun q14 => if ((b2i q14) = 0) then some (0 : Int32) else some (1 : Int32)) else if p2 = 5 then Option.bind (f_X3_lineLength p1 μ) (fun q16 => some q16) else if p2 = 6 then Option.bind (f_X3_lineWeight p1 μ) (fun q17 => some q17) else some (-2 : Int32))
set_option maxHeartbeats 4000000 in
set_option maxRecDepth 100000 in
theorem c_X7_lineProperty {l : Launch} {D : va_G} {cy : Nat → ClassId} {ad : Nat → Nat} {base : gBs} {p1 : Int32} {p2 : Int32} {μ : gM} {RES : Int32} (h : f_X7_lineProperty p1 p2 μ = some RES) : Met l yX7_lineProperty [.code yX7_lineProperty cX7_lineProperty 3 (some .int)] ({ frames := 3, cells := 0, slots := 0, locals := 68 } : Room) (va_Pc [.ref (ad 0), .int p1, .int p2] (gB l gFull D cy ad base μ)) (gQ (some (.int RES)) gFull D cy ad base μ) 0 0 (gA base) := by
  refine Met.ofW (cc := cX7_lineProperty) (maxL := 3) (ret := (some .int)) (by decide) rfl ?_
  intro p e s m args below meth c s₁ B hml0 hv
  obtain ⟨rfl, E, hM⟩ := hv
  have F : gF p s m meth c cX7_lineProperty RX7 3 (some .int) := gF_of B hml0
  obtain ⟨hx, hb, hml, hown, hlocks, hr⟩ := id F
  have hS : va_S (gA base) s.heap s.heap [] := va_S.rf
  have hl := lv_entry ([.ref (ad 0), .int p1, .int p2]) (n := 3) (Nat.le_of_ble_eq_true rfl)
  rw [lg_entry_eq]
  generalize (lg_sl ([.ref (ad 0), .int p1, .int p2]) ++ List.replicate (3 - (lg_sl ([.ref (ad 0), .int p1, .int p2])).length) Slot.unset).toArray = ls at hl ⊢
  have hl : lv_has ls 3 [(0, .ref (ad 0)), (1, .int p1), (2, .int p2)] := hl
  unfold f_X7_lineProperty at h
  refine lv_iload_n hx hb dX7_lineProperty_0 rfl (lv_at hl 1 rfl) ?_
  refine lv_aload_n hx hb dX7_lineProperty_1 rfl (lv_at hl 0 rfl) ?_
  refine gg_0_5 hx hb hown E hM hk_0 kw_491 dX7_lineProperty_2 ?_
  refine gg_34_2 hx hb hown E hM hk_34 kw_404 dX7_lineProperty_5 ?_
  obtain ⟨q1, hq1, h⟩ := gbind_e h
  refine g_callS (As := [.int p1, .int (gi μ 34 2)]) (rest := []) hx hb (hml.trans hl.1.symm) hown E hM hS hy_X7_needIndex kw_1074 (c_X7_needIndex hq1) rfl rfl (Nat.le_of_ble_eq_true rfl) ⟨Nat.le_of_ble_eq_true rfl, Nat.le_of_ble_eq_true rfl⟩ ⟨Nat.le_of_ble_eq_true rfl, Nat.le_of_ble_eq_true rfl⟩ dX7_lineProperty_8 (fun H locs hM hS => ?_)
  refine lv_iload_n hx hb dX7_lineProperty_11 rfl (lv_at hl 2 rfl) ?_
  by_cases c3 : p2 = 0
  · replace h := gif_t c3 h
    refine lv_tableIn (off := 44) (tgt := 56) hx hb dX7_lineProperty_12 (by rw [c3]; decide) (by rw [c3]; decide) (by rw [c3]; rfl) (by decide) ?_
    refine lv_aload_n hx hb dX7_lineProperty_56 rfl (lv_at hl 0 rfl) ?_
    refine gg_0_5 hx hb hown E hM hk_0 kw_491 dX7_lineProperty_57 ?_
    refine gg_34_10 hx hb hown E hM hk_34 kw_431 dX7_lineProperty_60 ?_
    refine lv_iload_n hx hb dX7_lineProperty_63 rfl (lv_at hl 1 rfl) ?_
    obtain ⟨c10, h⟩ := gchk_e h
    refine g_iald hx hb E hM hk_40 dd_40 c10 dX7_lineProperty_64 ?_
    obtain rfl := Option.some.inj h
    exact g_iret hx hb hr hlocks hM hS dX7_lineProperty_65
  · replace h := gif_f c3 h
    by_cases c4 : p2 = 1
    · replace h := gif_t c4 h
      refine lv_tableIn (off := 54) (tgt := 66) hx hb dX7_lineProperty_12 (by rw [c4]; decide) (by rw [c4]; decide) (by rw [c4]; rfl) (by decide) ?_
      refine lv_aload_n hx hb dX7_lineProperty_66 rfl (lv_at hl 0 rfl) ?_
      refine gg_0_5 hx hb hown E hM hk_0 kw_491 dX7_lineProperty_67 ?_
      refine gg_34_11 hx hb hown E hM hk_34 kw_437 dX7_lineProperty_70 ?_
      refine lv_iload_n hx hb dX7_lineProperty_73 rfl (lv_at hl 1 rfl) ?_
      obtain ⟨c11, h⟩ := gchk_e h
      refine g_iald hx hb E hM hk_41 dd_41 c11 dX7_lineProperty_74 ?_
      obtain rfl := Option.some.inj h
      exact g_iret hx hb hr hlocks hM hS dX7_lineProperty_75
    · replace h := gif_f c4 h
      by_cases c5 : p2 = 2
      · replace h := gif_t c5 h
        refine lv_tableIn (off := 64) (tgt := 76) hx hb dX7_lineProperty_12 (by rw [c5]; decide) (by rw [c5]; decide) (by rw [c5]; rfl) (by decide) ?_
        refine lv_aload_n hx hb dX7_lineProperty_76 rfl (lv_at hl 0 rfl) ?_
        refine gg_0_5 hx hb hown E hM hk_0 kw_491 dX7_lineProperty_77 ?_
        refine gg_34_12 hx hb hown E hM hk_34 kw_440 dX7_lineProperty_80 ?_
        refine lv_iload_n hx hb dX7_lineProperty_83 rfl (lv_at hl 1 rfl) ?_
        obtain ⟨c12, h⟩ := gchk_e h
        refine g_iald hx hb E hM hk_42 dd_42 c12 dX7_lineProperty_84 ?_
        obtain rfl := Option.some.inj h
        exact g_iret hx hb hr hlocks hM hS dX7_lineProperty_85
      · replace h := gif_f c5 h
        by_cases c6 : p2 = 3
        · replace h := gif_t c6 h
          refine lv_tableIn (off := 74) (tgt := 86) hx hb dX7_lineProperty_12 (by rw [c6]; decide) (by rw [c6]; decide) (by rw [c6]; rfl) (by decide) ?_
          refine lv_aload_n hx hb dX7_lineProperty_86 rfl (lv_at hl 0 rfl) ?_
          refine gg_0_5 hx hb hown E hM hk_0 kw_491 dX7_lineProperty_87 ?_
          refine gg_34_13 hx hb hown E hM hk_34 kw_443 dX7_lineProperty_90 ?_
          refine lv_iload_n hx hb dX7_lineProperty_93 rfl (lv_at hl 1 rfl) ?_
          obtain ⟨c13, h⟩ := gchk_e h
          refine g_iald hx hb E hM hk_43 dd_43 c13 dX7_lineProperty_94 ?_
          obtain rfl := Option.some.inj h
          exact g_iret hx hb hr hlocks hM hS dX7_lineProperty_95
        · replace h := gif_f c6 h
          by_cases c7 : p2 = 4
          · replace h := gif_t c7 h
            refine lv_tableIn (off := 84) (tgt := 96) hx hb dX7_lineProperty_12 (by rw [c7]; decide) (by rw [c7]; decide) (by rw [c7]; rfl) (by decide) ?_
            refine lv_aload_n hx hb dX7_lineProperty_96 rfl (lv_at hl 0 rfl) ?_
            refine gg_0_5 hx hb hown E hM hk_0 kw_491 dX7_lineProperty_97 ?_
            refine lv_iload_n hx hb dX7_lineProperty_100 rfl (lv_at hl 1 rfl) ?_
            obtain ⟨q14, hq14, h⟩ := gbind_e h
            refine g_callV (As := [.int p1]) (rest := []) hx hb (hml.trans hl.1.symm) hown E hM hS hy_X3_isActive kw_1201 (c_X3_isActive hq14) hk_34 dd_34 rfl rfl rfl (Nat.le_of_ble_eq_true rfl) ⟨Nat.le_of_ble_eq_true rfl, Nat.le_of_ble_eq_true rfl⟩ ⟨Nat.le_of_ble_eq_true rfl, Nat.le_of_ble_eq_true rfl⟩ dX7_lineProperty_101 (fun H locs hM hS => ?_)
            refine lv_if_eq (tgt := 111) hx hb dX7_lineProperty_104 (by decide) (fun c15 => ?_) (fun c15 => ?_)
            · replace h := gif_t c15 h
              refine lv_iconst (v := (0 : Int32)) hx hb dX7_lineProperty_111 (by decide) ?_
              obtain rfl := Option.some.inj h
              exact g_iret hx hb hr hlocks hM hS dX7_lineProperty_112
            · replace h := gif_f c15 h
              refine lv_iconst (v := (1 : Int32)) hx hb dX7_lineProperty_107 (by decide) ?_
              refine lv_goto (tgt := 112) hx hb dX7_lineProperty_108 (by decide) ?_
              obtain rfl := Option.some.inj h
              exact g_iret hx hb hr hlocks hM hS dX7_lineProperty_112
          · replace h := gif_f c7 h
            by_cases c8 : p2 = 5
            · replace h := gif_t c8 h
              refine lv_tableIn (off := 101) (tgt := 113) hx hb dX7_lineProperty_12 (by rw [c8]; decide) (by rw [c8]; decide) (by rw [c8]; rfl) (by decide) ?_
              refine lv_aload_n hx hb dX7_lineProperty_113 rfl (lv_at hl 0 rfl) ?_
              refine gg_0_5 hx hb hown E hM hk_0 kw_491 dX7_lineProperty_114 ?_
              refine lv_iload_n hx hb dX7_lineProperty_117 rfl (lv_at hl 1 rfl) ?_
              obtain ⟨q16, hq16, h⟩ := gbind_e h
              refine g_callV (As := [.int p1]) (rest := []) hx hb (hml.trans hl.1.symm) hown E hM hS hy_X3_lineLength kw_1205 (c_X3_lineLength hq16) hk_34 dd_34 rfl rfl rfl (Nat.le_of_ble_eq_true rfl) ⟨Nat.le_of_ble_eq_true rfl, Nat.le_of_ble_eq_true rfl⟩ ⟨Nat.le_of_ble_eq_true rfl, Nat.le_of_ble_eq_true rfl⟩ dX7_lineProperty_118 (fun H locs hM hS => ?_)
              obtain rfl := Option.some.inj h
              exact g_iret hx hb hr hlocks hM hS dX7_lineProperty_121
            · replace h := gif_f c8 h
              by_cases c9 : p2 = 6
              · replace h := gif_t c9 h
                refine lv_tableIn (off := 110) (tgt := 122) hx hb dX7_lineProperty_12 (by rw [c9]; decide) (by rw [c9]; decide) (by rw [c9]; rfl) (by decide) ?_
                refine lv_aload_n hx hb dX7_lineProperty_122 rfl (lv_at hl 0 rfl) ?_
                refine gg_0_5 hx hb hown E hM hk_0 kw_491 dX7_lineProperty_123 ?_
                refine lv_iload_n hx hb dX7_lineProperty_126 rfl (lv_at hl 1 rfl) ?_
                obtain ⟨q17, hq17, h⟩ := gbind_e h
                refine g_callV (As := [.int p1]) (rest := []) hx hb (hml.trans hl.1.symm) hown E hM hS hy_X3_lineWeight kw_1206 (c_X3_lineWeight hq17) hk_34 dd_34 rfl rfl rfl (Nat.le_of_ble_eq_true rfl) ⟨Nat.le_of_ble_eq_true rfl, Nat.le_of_ble_eq_true rfl⟩ ⟨Nat.le_of_ble_eq_true rfl, Nat.le_of_ble_eq_true rfl⟩ dX7_lineProperty_127 (fun H locs hM hS => ?_)
                obtain rfl := Option.some.inj h
                exact g_iret hx hb hr hlocks hM hS dX7_lineProperty_130
              · replace h := gif_f c9 h
                refine lv_tableOut (tgt := 131) hx hb dX7_lineProperty_12 (g_sw7 c3 c4 c5 c6 c7 c8 c9) (by decide) ?_
                refine lv_bipush (v := (-2 : Int32)) hx hb dX7_lineProperty_131 (by decide) ?_
                obtain rfl := Option.some.inj h
                exact g_iret hx hb hr hlocks hM hS dX7_lineProperty_133
def f_X7_stepOf (p1 : Int32) (p2 : Int32) (μ : gM) : Option (Int32) :=
  Option.bind (f_X7_needIndex p1 (gi μ 34 2) μ) (fun q1 => Option.bind (f_X3_hasSetup p1 p2 μ) (fun q2 => if ((b2i q2) = 0) then some (-2147483648 : Int32) else Option.bind (f_X3_setupRise p1 p2 μ) (fun q4 => some q4)))
set_option maxHeartbeats 4000000 in
set_option maxRecDepth 100000 in
theorem c_X7_stepOf {l : Launch} {D : va_G} {cy : Nat → ClassId} {ad : Nat → Nat} {base : gBs} {p1 : Int32} {p2 : Int32} {μ : gM} {RES : Int32} (h : f_X7_stepOf p1 p2 μ = some RES) : Met l yX7_stepOf [.code yX7_stepOf cX7_stepOf 3 (some .int)] ({ frames := 2, cells := 0, slots := 0, locals := 45 } : Room) (va_Pc [.ref (ad 0), .int p1, .int p2] (gB l gFull D cy ad base μ)) (gQ (some (.int RES)) gFull D cy ad base μ) 0 0 (gA base) := by
  refine Met.ofW (cc := cX7_stepOf) (maxL := 3) (ret := (some .int)) (by decide) rfl ?_
  intro p e s m args below meth c s₁ B hml0 hv
  obtain ⟨rfl, E, hM⟩ := hv
  have F : gF p s m meth c cX7_stepOf RX7 3 (some .int) := gF_of B hml0
  obtain ⟨hx, hb, hml, hown, hlocks, hr⟩ := id F
  have hS : va_S (gA base) s.heap s.heap [] := va_S.rf
  have hl := lv_entry ([.ref (ad 0), .int p1, .int p2]) (n := 3) (Nat.le_of_ble_eq_true rfl)
  rw [lg_entry_eq]
  generalize (lg_sl ([.ref (ad 0), .int p1, .int p2]) ++ List.replicate (3 - (lg_sl ([.ref (ad 0), .int p1, .int p2])).length) Slot.unset).toArray = ls at hl ⊢
  have hl : lv_has ls 3 [(0, .ref (ad 0)), (1, .int p1), (2, .int p2)] := hl
  unfold f_X7_stepOf at h
  refine lv_iload_n hx hb dX7_stepOf_0 rfl (lv_at hl 1 rfl) ?_
  refine lv_aload_n hx hb dX7_stepOf_1 rfl (lv_at hl 0 rfl) ?_
  refine gg_0_5 hx hb hown E hM hk_0 kw_491 dX7_stepOf_2 ?_
  refine gg_34_2 hx hb hown E hM hk_34 kw_404 dX7_stepOf_5 ?_
  obtain ⟨q1, hq1, h⟩ := gbind_e h
  refine g_callS (As := [.int p1, .int (gi μ 34 2)]) (rest := []) hx hb (hml.trans hl.1.symm) hown E hM hS hy_X7_needIndex kw_1074 (c_X7_needIndex hq1) rfl rfl (Nat.le_of_ble_eq_true rfl) ⟨Nat.le_of_ble_eq_true rfl, Nat.le_of_ble_eq_true rfl⟩ ⟨Nat.le_of_ble_eq_true rfl, Nat.le_of_ble_eq_true rfl⟩ dX7_stepOf_8 (fun H locs hM hS => ?_)
  refine lv_aload_n hx hb dX7_stepOf_11 rfl (lv_at hl 0 rfl) ?_
  refine gg_0_5 hx hb hown E hM hk_0 kw_491 dX7_stepOf_12 ?_
  refine lv_iload_n hx hb dX7_stepOf_15 rfl (lv_at hl 1 rfl) ?_
  refine lv_iload_n hx hb dX7_stepOf_16 rfl (lv_at hl 2 rfl) ?_
  obtain ⟨q2, hq2, h⟩ := gbind_e h
  refine g_callV (As := [.int p1, .int p2]) (rest := []) hx hb (hml.trans hl.1.symm) hown E hM hS hy_X3_hasSetup kw_1220 (c_X3_hasSetup hq2) hk_34 dd_34 rfl rfl rfl (Nat.le_of_ble_eq_true rfl) ⟨Nat.le_of_ble_eq_true rfl, Nat.le_of_ble_eq_true rfl⟩ ⟨Nat.le_of_ble_eq_true rfl, Nat.le_of_ble_eq_true rfl⟩ dX7_stepOf_17 (fun H locs hM hS => ?_)
  refine lv_if_ne (tgt := 26) hx hb dX7_stepOf_20 (by decide) (fun c3 => ?_) (fun c3 => ?_)
  · replace h := gif_f c3 h
    refine lv_aload_n hx hb dX7_stepOf_26 rfl (lv_at hl 0 rfl) ?_
    refine gg_0_5 hx hb hown E hM hk_0 kw_491 dX7_stepOf_27 ?_
    refine lv_iload_n hx hb dX7_stepOf_30 rfl (lv_at hl 1 rfl) ?_
    refine lv_iload_n hx hb dX7_stepOf_31 rfl (lv_at hl 2 rfl) ?_
    obtain ⟨q4, hq4, h⟩ := gbind_e h
    refine g_callV (As := [.int p1, .int p2]) (rest := []) hx hb (hml.trans hl.1.symm) hown E hM hS hy_X3_setupRise kw_1226 (c_X3_setupRise hq4) hk_34 dd_34 rfl rfl rfl (Nat.le_of_ble_eq_true rfl) ⟨Nat.le_of_ble_eq_true rfl, Nat.le_of_ble_eq_true rfl⟩ ⟨Nat.le_of_ble_eq_true rfl, Nat.le_of_ble_eq_true rfl⟩ dX7_stepOf_32 (fun H locs hM hS => ?_)
    obtain rfl := Option.some.inj h
    exact g_iret hx hb hr hlocks hM hS dX7_stepOf_35
  · replace h := gif_t c3 h
    refine lv_ldc hx hb hown (v := (-2147483648 : Int32)) (E.kw kw_1225) dX7_stepOf_23 ?_
    obtain rfl := Option.some.inj h
    exact g_iret hx hb hr hlocks hM hS dX7_stepOf_25
def f_X7_riseOf (p1 : Int32) (μ : gM) : Option (Int32) :=
  Option.bind (f_X7_needIndex p1 (gi μ 34 2) μ) (fun q1 => Option.bind (f_X3_lineRise p1 μ) (fun q2 => some q2))
set_option maxHeartbeats 4000000 in
set_option maxRecDepth 100000 in
theorem c_X7_riseOf {l : Launch} {D : va_G} {cy : Nat → ClassId} {ad : Nat → Nat} {base : gBs} {p1 : Int32} {μ : gM} {RES : Int32} (h : f_X7_riseOf p1 μ = some RES) : Met l yX7_riseOf [.code yX7_riseOf cX7_riseOf 2 (some .int)] ({ frames := 3, cells := 0, slots := 0, locals := 68 } : Room) (va_Pc [.ref (ad 0), .int p1] (gB l gFull D cy ad base μ)) (gQ (some (.int RES)) gFull D cy ad base μ) 0 0 (gA base) := by
  refine Met.ofW (cc := cX7_riseOf) (maxL := 2) (ret := (some .int)) (by decide) rfl ?_
  intro p e s m args below meth c s₁ B hml0 hv
  obtain ⟨rfl, E, hM⟩ := hv
  have F : gF p s m meth c cX7_riseOf RX7 2 (some .int) := gF_of B hml0
  obtain ⟨hx, hb, hml, hown, hlocks, hr⟩ := id F
  have hS : va_S (gA base) s.heap s.heap [] := va_S.rf
  have hl := lv_entry ([.ref (ad 0), .int p1]) (n := 2) (Nat.le_of_ble_eq_true rfl)
  rw [lg_entry_eq]
  generalize (lg_sl ([.ref (ad 0), .int p1]) ++ List.replicate (2 - (lg_sl ([.ref (ad 0), .int p1])).length) Slot.unset).toArray = ls at hl ⊢
  have hl : lv_has ls 2 [(0, .ref (ad 0)), (1, .int p1)] := hl
  unfold f_X7_riseOf at h
  refine lv_iload_n hx hb dX7_riseOf_0 rfl (lv_at hl 1 rfl) ?_
  refine lv_aload_n hx hb dX7_riseOf_1 rfl (lv_at hl 0 rfl) ?_
  refine gg_0_5 hx hb hown E hM hk_0 kw_491 dX7_riseOf_2 ?_
  refine gg_34_2 hx hb hown E hM hk_34 kw_404 dX7_riseOf_5 ?_
  obtain ⟨q1, hq1, h⟩ := gbind_e h
  refine g_callS (As := [.int p1, .int (gi μ 34 2)]) (rest := []) hx hb (hml.trans hl.1.symm) hown E hM hS hy_X7_needIndex kw_1074 (c_X7_needIndex hq1) rfl rfl (Nat.le_of_ble_eq_true rfl) ⟨Nat.le_of_ble_eq_true rfl, Nat.le_of_ble_eq_true rfl⟩ ⟨Nat.le_of_ble_eq_true rfl, Nat.le_of_ble_eq_true rfl⟩ dX7_riseOf_8 (fun H locs hM hS => ?_)
  refine lv_aload_n hx hb dX7_riseOf_11 rfl (lv_at hl 0 rfl) ?_
  refine gg_0_5 hx hb hown E hM hk_0 kw_491 dX7_riseOf_12 ?_
  refine lv_iload_n hx hb dX7_riseOf_15 rfl (lv_at hl 1 rfl) ?_
  obtain ⟨q2, hq2, h⟩ := gbind_e h
  refine g_callV (As := [.int p1]) (rest := []) hx hb (hml.trans hl.1.symm) hown E hM hS hy_X3_lineRise kw_1145 (c_X3_lineRise hq2) hk_34 dd_34 rfl rfl rfl (Nat.le_of_ble_eq_true rfl) ⟨Nat.le_of_ble_eq_true rfl, Nat.le_of_ble_eq_true rfl⟩ ⟨Nat.le_of_ble_eq_true rfl, Nat.le_of_ble_eq_true rfl⟩ dX7_riseOf_16 (fun H locs hM hS => ?_)
  obtain rfl := Option.some.inj h
  exact g_iret hx hb hr hlocks hM hS dX7_riseOf_19
def f_X7_rootOf (p1 : Int32) (μ : gM) : Option (Int32 × gM) :=
  Option.bind (f_X7_needIndex p1 (gi μ 34 1) μ) (fun q1 => Option.bind (f_X5_grow (gi μ 34 4) μ) (fun q2 => gchk (gIn p1 16) (some ((gi q2 8 p1.toNatClampNeg), q2))))
set_option maxHeartbeats 4000000 in
set_option maxRecDepth 100000 in
theorem c_X7_rootOf {l : Launch} {D : va_G} {cy : Nat → ClassId} {ad : Nat → Nat} {base : gBs} {p1 : Int32} {μ : gM} {RES : Int32 × gM} (h : f_X7_rootOf p1 μ = some RES) : Met l yX7_rootOf [.code yX7_rootOf cX7_rootOf 2 (some .int)] ({ frames := 3, cells := 0, slots := 0, locals := 74 } : Room) (va_Pc [.ref (ad 0), .int p1] (gB l gFull D cy ad base μ)) (gQ (some (.int RES.1)) gFull D cy ad base RES.2) 0 0 (gA base) := by
  refine Met.ofW (cc := cX7_rootOf) (maxL := 2) (ret := (some .int)) (by decide) rfl ?_
  intro p e s m args below meth c s₁ B hml0 hv
  obtain ⟨rfl, E, hM⟩ := hv
  have F : gF p s m meth c cX7_rootOf RX7 2 (some .int) := gF_of B hml0
  obtain ⟨hx, hb, hml, hown, hlocks, hr⟩ := id F
  have hS : va_S (gA base) s.heap s.heap [] := va_S.rf
  have hl := lv_entry ([.ref (ad 0), .int p1]) (n := 2) (Nat.le_of_ble_eq_true rfl)
  rw [lg_entry_eq]
  generalize (lg_sl ([.ref (ad 0), .int p1]) ++ List.replicate (2 - (lg_sl ([.ref (ad 0), .int p1])).length) Slot.unset).toArray = ls at hl ⊢
  have hl : lv_has ls 2 [(0, .ref (ad 0)), (1, .int p1)] := hl
  unfold f_X7_rootOf at h
  refine lv_iload_n hx hb dX7_rootOf_0 rfl (lv_at hl 1 rfl) ?_
  refine lv_aload_n hx hb dX7_rootOf_1 rfl (lv_at hl 0 rfl) ?_
  refine gg_0_5 hx hb hown E hM hk_0 kw_491 dX7_rootOf_2 ?_
  refine gg_34_1 hx hb hown E hM hk_34 kw_397 dX7_rootOf_5 ?_
  obtain ⟨q1, hq1, h⟩ := gbind_e h
  refine g_callS (As := [.int p1, .int (gi μ 34 1)]) (rest := []) hx hb (hml.trans hl.1.symm) hown E hM hS hy_X7_needIndex kw_1074 (c_X7_needIndex hq1) rfl rfl (Nat.le_of_ble_eq_true rfl) ⟨Nat.le_of_ble_eq_true rfl, Nat.le_of_ble_eq_true rfl⟩ ⟨Nat.le_of_ble_eq_true rfl, Nat.le_of_ble_eq_true rfl⟩ dX7_rootOf_8 (fun H locs hM hS => ?_)
  refine lv_aload_n hx hb dX7_rootOf_11 rfl (lv_at hl 0 rfl) ?_
  refine gg_0_2 hx hb hown E hM hk_0 kw_488 dX7_rootOf_12 ?_
  refine gg_6_0 hx hb hown E hM hk_6 kw_273 dX7_rootOf_15 ?_
  refine lv_aload_n hx hb dX7_rootOf_18 rfl (lv_at hl 0 rfl) ?_
  refine gg_0_5 hx hb hown E hM hk_0 kw_491 dX7_rootOf_19 ?_
  refine lv_aload_n hx hb dX7_rootOf_22 rfl (lv_at hl 0 rfl) ?_
  refine gg_0_5 hx hb hown E hM hk_0 kw_491 dX7_rootOf_23 ?_
  refine gg_34_4 hx hb hown E hM hk_34 kw_411 dX7_rootOf_26 ?_
  obtain ⟨q2, hq2, h⟩ := gbind_e h
  refine g_callV (As := [.ref (ad 34), .int (gi μ 34 4)]) (rest := []) hx hb (hml.trans hl.1.symm) hown E hM hS hy_X5_grow kw_1240 (c_X5_grow hq2) hk_7 dd_7 rfl rfl rfl (Nat.le_of_ble_eq_true rfl) ⟨Nat.le_of_ble_eq_true rfl, Nat.le_of_ble_eq_true rfl⟩ ⟨Nat.le_of_ble_eq_true rfl, Nat.le_of_ble_eq_true rfl⟩ dX7_rootOf_29 (fun H locs hM hS => ?_)
  refine lv_aload_n hx hb dX7_rootOf_32 rfl (lv_at hl 0 rfl) ?_
  refine gg_0_2 hx hb hown E hM hk_0 kw_488 dX7_rootOf_33 ?_
  refine gg_6_0 hx hb hown E hM hk_6 kw_273 dX7_rootOf_36 ?_
  refine gg_7_0 hx hb hown E hM hk_7 kw_244 dX7_rootOf_39 ?_
  refine lv_iload_n hx hb dX7_rootOf_42 rfl (lv_at hl 1 rfl) ?_
  obtain ⟨c3, h⟩ := gchk_e h
  refine g_iald hx hb E hM hk_8 dd_8 c3 dX7_rootOf_43 ?_
  obtain rfl := Option.some.inj h
  exact g_iret hx hb hr hlocks hM hS dX7_rootOf_44
def f_X7_partCount (μ : gM) : Option (Int32 × gM) :=
  Option.bind (f_X5_grow (gi μ 34 4) μ) (fun q1 => some ((gi q1 7 6), q1))
set_option maxHeartbeats 4000000 in
set_option maxRecDepth 100000 in
theorem c_X7_partCount {l : Launch} {D : va_G} {cy : Nat → ClassId} {ad : Nat → Nat} {base : gBs}  {μ : gM} {RES : Int32 × gM} (h : f_X7_partCount  μ = some RES) : Met l yX7_partCount [.code yX7_partCount cX7_partCount 1 (some .int)] ({ frames := 3, cells := 0, slots := 0, locals := 74 } : Room) (va_Pc [.ref (ad 0)] (gB l gFull D cy ad base μ)) (gQ (some (.int RES.1)) gFull D cy ad base RES.2) 0 0 (gA base) := by
  refine Met.ofW (cc := cX7_partCount) (maxL := 1) (ret := (some .int)) (by decide) rfl ?_
  intro p e s m args below meth c s₁ B hml0 hv
  obtain ⟨rfl, E, hM⟩ := hv
  have F : gF p s m meth c cX7_partCount RX7 1 (some .int) := gF_of B hml0
  obtain ⟨hx, hb, hml, hown, hlocks, hr⟩ := id F
  have hS : va_S (gA base) s.heap s.heap [] := va_S.rf
  have hl := lv_entry ([.ref (ad 0)]) (n := 1) (Nat.le_of_ble_eq_true rfl)
  rw [lg_entry_eq]
  generalize (lg_sl ([.ref (ad 0)]) ++ List.replicate (1 - (lg_sl ([.ref (ad 0)])).length) Slot.unset).toArray = ls at hl ⊢
  have hl : lv_has ls 1 [(0, .ref (ad 0))] := hl
  unfold f_X7_partCount at h
  refine lv_aload_n hx hb dX7_partCount_0 rfl (lv_at hl 0 rfl) ?_
  refine gg_0_2 hx hb hown E hM hk_0 kw_488 dX7_partCount_1 ?_
  refine gg_6_0 hx hb hown E hM hk_6 kw_273 dX7_partCount_4 ?_
  refine lv_aload_n hx hb dX7_partCount_7 rfl (lv_at hl 0 rfl) ?_
  refine gg_0_5 hx hb hown E hM hk_0 kw_491 dX7_partCount_8 ?_
  refine lv_aload_n hx hb dX7_partCount_11 rfl (lv_at hl 0 rfl) ?_
  refine gg_0_5 hx hb hown E hM hk_0 kw_491 dX7_partCount_12 ?_
  refine gg_34_4 hx hb hown E hM hk_34 kw_411 dX7_partCount_15 ?_
  obtain ⟨q1, hq1, h⟩ := gbind_e h
  refine g_callV (As := [.ref (ad 34), .int (gi μ 34 4)]) (rest := []) hx hb (hml.trans hl.1.symm) hown E hM hS hy_X5_grow kw_1240 (c_X5_grow hq1) hk_7 dd_7 rfl rfl rfl (Nat.le_of_ble_eq_true rfl) ⟨Nat.le_of_ble_eq_true rfl, Nat.le_of_ble_eq_true rfl⟩ ⟨Nat.le_of_ble_eq_true rfl, Nat.le_of_ble_eq_true rfl⟩ dX7_partCount_18 (fun H locs hM hS => ?_)
  refine lv_aload_n hx hb dX7_partCount_21 rfl (lv_at hl 0 rfl) ?_
  refine gg_0_2 hx hb hown E hM hk_0 kw_488 dX7_partCount_22 ?_
  refine gg_6_0 hx hb hown E hM hk_6 kw_273 dX7_partCount_25 ?_
  refine gg_7_6 hx hb hown E hM hk_7 kw_256 dX7_partCount_28 ?_
  obtain rfl := Option.some.inj h
  exact g_iret hx hb hr hlocks hM hS dX7_partCount_31
def f_X7_distance (p1 : Int32) (p2 : Int32) (μ : gM) : Option (Int32 × gM) :=
  Option.bind (f_X7_needIndex p1 (gi μ 34 1) μ) (fun q1 => Option.bind (f_X7_needIndex p2 (gi μ 34 1) μ) (fun q2 => Option.bind (f_X6_measure p1 μ) (fun q3 => gchk (gIn p2 16) (some ((gi q3 4 p2.toNatClampNeg), q3)))))
set_option maxHeartbeats 4000000 in
set_option maxRecDepth 100000 in
theorem c_X7_distance {l : Launch} {D : va_G} {cy : Nat → ClassId} {ad : Nat → Nat} {base : gBs} {p1 : Int32} {p2 : Int32} {μ : gM} {RES : Int32 × gM} (h : f_X7_distance p1 p2 μ = some RES) : Met l yX7_distance [.code yX7_distance cX7_distance 3 (some .int)] ({ frames := 3, cells := 0, slots := 0, locals := 75 } : Room) (va_Pc [.ref (ad 0), .int p1, .int p2] (gB l gFull D cy ad base μ)) (gQ (some (.int RES.1)) gFull D cy ad base RES.2) 0 0 (gA base) := by
  refine Met.ofW (cc := cX7_distance) (maxL := 3) (ret := (some .int)) (by decide) rfl ?_
  intro p e s m args below meth c s₁ B hml0 hv
  obtain ⟨rfl, E, hM⟩ := hv
  have F : gF p s m meth c cX7_distance RX7 3 (some .int) := gF_of B hml0
  obtain ⟨hx, hb, hml, hown, hlocks, hr⟩ := id F
  have hS : va_S (gA base) s.heap s.heap [] := va_S.rf
  have hl := lv_entry ([.ref (ad 0), .int p1, .int p2]) (n := 3) (Nat.le_of_ble_eq_true rfl)
  rw [lg_entry_eq]
  generalize (lg_sl ([.ref (ad 0), .int p1, .int p2]) ++ List.replicate (3 - (lg_sl ([.ref (ad 0), .int p1, .int p2])).length) Slot.unset).toArray = ls at hl ⊢
  have hl : lv_has ls 3 [(0, .ref (ad 0)), (1, .int p1), (2, .int p2)] := hl
  unfold f_X7_distance at h
  refine lv_iload_n hx hb dX7_distance_0 rfl (lv_at hl 1 rfl) ?_
  refine lv_aload_n hx hb dX7_distance_1 rfl (lv_at hl 0 rfl) ?_
  refine gg_0_5 hx hb hown E hM hk_0 kw_491 dX7_distance_2 ?_
  refine gg_34_1 hx hb hown E hM hk_34 kw_397 dX7_distance_5 ?_
  obtain ⟨q1, hq1, h⟩ := gbind_e h
  refine g_callS (As := [.int p1, .int (gi μ 34 1)]) (rest := []) hx hb (hml.trans hl.1.symm) hown E hM hS hy_X7_needIndex kw_1074 (c_X7_needIndex hq1) rfl rfl (Nat.le_of_ble_eq_true rfl) ⟨Nat.le_of_ble_eq_true rfl, Nat.le_of_ble_eq_true rfl⟩ ⟨Nat.le_of_ble_eq_true rfl, Nat.le_of_ble_eq_true rfl⟩ dX7_distance_8 (fun H locs hM hS => ?_)
  refine lv_iload_n hx hb dX7_distance_11 rfl (lv_at hl 2 rfl) ?_
  refine lv_aload_n hx hb dX7_distance_12 rfl (lv_at hl 0 rfl) ?_
  refine gg_0_5 hx hb hown E hM hk_0 kw_491 dX7_distance_13 ?_
  refine gg_34_1 hx hb hown E hM hk_34 kw_397 dX7_distance_16 ?_
  obtain ⟨q2, hq2, h⟩ := gbind_e h
  refine g_callS (As := [.int p2, .int (gi μ 34 1)]) (rest := []) hx hb (hml.trans hl.1.symm) hown E hM hS hy_X7_needIndex kw_1074 (c_X7_needIndex hq2) rfl rfl (Nat.le_of_ble_eq_true rfl) ⟨Nat.le_of_ble_eq_true rfl, Nat.le_of_ble_eq_true rfl⟩ ⟨Nat.le_of_ble_eq_true rfl, Nat.le_of_ble_eq_true rfl⟩ dX7_distance_19 (fun H locs hM hS => ?_)
  refine lv_aload_n hx hb dX7_distance_22 rfl (lv_at hl 0 rfl) ?_
  refine gg_0_1 hx hb hown E hM hk_0 kw_487 dX7_distance_23 ?_
  refine lv_aload_n hx hb dX7_distance_26 rfl (lv_at hl 0 rfl) ?_
  refine gg_0_5 hx hb hown E hM hk_0 kw_491 dX7_distance_27 ?_
  refine lv_iload_n hx hb dX7_distance_30 rfl (lv_at hl 1 rfl) ?_
  obtain ⟨q3, hq3, h⟩ := gbind_e h
  refine g_callV (As := [.ref (ad 34), .int p1]) (rest := []) hx hb (hml.trans hl.1.symm) hown E hM hS hy_X6_measure kw_1253 (c_X6_measure hq3) hk_3 dd_3 rfl rfl rfl (Nat.le_of_ble_eq_true rfl) ⟨Nat.le_of_ble_eq_true rfl, Nat.le_of_ble_eq_true rfl⟩ ⟨Nat.le_of_ble_eq_true rfl, Nat.le_of_ble_eq_true rfl⟩ dX7_distance_31 (fun H locs hM hS => ?_)
  refine lv_aload_n hx hb dX7_distance_34 rfl (lv_at hl 0 rfl) ?_
  refine gg_0_1 hx hb hown E hM hk_0 kw_487 dX7_distance_35 ?_
  refine gg_3_0 hx hb hown E hM hk_3 kw_215 dX7_distance_38 ?_
  refine lv_iload_n hx hb dX7_distance_41 rfl (lv_at hl 2 rfl) ?_
  obtain ⟨c4, h⟩ := gchk_e h
  refine g_iald hx hb E hM hk_4 dd_4 c4 dX7_distance_42 ?_
  obtain rfl := Option.some.inj h
  exact g_iret hx hb hr hlocks hM hS dX7_distance_43
def f_X7_riseBetween (p1 : Int32) (p2 : Int32) (μ : gM) : Option (Int32 × gM) :=
  Option.bind (f_X7_needIndex p1 (gi μ 34 1) μ) (fun q1 => Option.bind (f_X7_needIndex p2 (gi μ 34 1) μ) (fun q2 => Option.bind (f_X6_trace p1 p2 μ) (fun q3 => gchk (gIn p2 16) (if ((gi q3 4 p2.toNatClampNeg) = (-1 : Int32)) then some ((-2147483648 : Int32), q3) else some ((gi q3 3 3), q3)))))
set_option maxHeartbeats 4000000 in
set_option maxRecDepth 100000 in
theorem c_X7_riseBetween {l : Launch} {D : va_G} {cy : Nat → ClassId} {ad : Nat → Nat} {base : gBs} {p1 : Int32} {p2 : Int32} {μ : gM} {RES : Int32 × gM} (h : f_X7_riseBetween p1 p2 μ = some RES) : Met l yX7_riseBetween [.code yX7_riseBetween cX7_riseBetween 3 (some .int)] ({ frames := 5, cells := 0, slots := 0, locals := 116 } : Room) (va_Pc [.ref (ad 0), .int p1, .int p2] (gB l gFull D cy ad base μ)) (gQ (some (.int RES.1)) gFull D cy ad base RES.2) 0 0 (gA base) := by
  refine Met.ofW (cc := cX7_riseBetween) (maxL := 3) (ret := (some .int)) (by decide) rfl ?_
  intro p e s m args below meth c s₁ B hml0 hv
  obtain ⟨rfl, E, hM⟩ := hv
  have F : gF p s m meth c cX7_riseBetween RX7 3 (some .int) := gF_of B hml0
  obtain ⟨hx, hb, hml, hown, hlocks, hr⟩ := id F
  have hS : va_S (gA base) s.heap s.heap [] := va_S.rf
  have hl := lv_entry ([.ref (ad 0), .int p1, .int p2]) (n := 3) (Nat.le_of_ble_eq_true rfl)
  rw [lg_entry_eq]
  generalize (lg_sl ([.ref (ad 0), .int p1, .int p2]) ++ List.replicate (3 - (lg_sl ([.ref (ad 0), .int p1, .int p2])).length) Slot.unset).toArray = ls at hl ⊢
  have hl : lv_has ls 3 [(0, .ref (ad 0)), (1, .int p1), (2, .int p2)] := hl
  unfold f_X7_riseBetween at h
  refine lv_iload_n hx hb dX7_riseBetween_0 rfl (lv_at hl 1 rfl) ?_
  refine lv_aload_n hx hb dX7_riseBetween_1 rfl (lv_at hl 0 rfl) ?_
  refine gg_0_5 hx hb hown E hM hk_0 kw_491 dX7_riseBetween_2 ?_
  refine gg_34_1 hx hb hown E hM hk_34 kw_397 dX7_riseBetween_5 ?_
  obtain ⟨q1, hq1, h⟩ := gbind_e h
  refine g_callS (As := [.int p1, .int (gi μ 34 1)]) (rest := []) hx hb (hml.trans hl.1.symm) hown E hM hS hy_X7_needIndex kw_1074 (c_X7_needIndex hq1) rfl rfl (Nat.le_of_ble_eq_true rfl) ⟨Nat.le_of_ble_eq_true rfl, Nat.le_of_ble_eq_true rfl⟩ ⟨Nat.le_of_ble_eq_true rfl, Nat.le_of_ble_eq_true rfl⟩ dX7_riseBetween_8 (fun H locs hM hS => ?_)
  refine lv_iload_n hx hb dX7_riseBetween_11 rfl (lv_at hl 2 rfl) ?_
  refine lv_aload_n hx hb dX7_riseBetween_12 rfl (lv_at hl 0 rfl) ?_
  refine gg_0_5 hx hb hown E hM hk_0 kw_491 dX7_riseBetween_13 ?_
  refine gg_34_1 hx hb hown E hM hk_34 kw_397 dX7_riseBetween_16 ?_
  obtain ⟨q2, hq2, h⟩ := gbind_e h
  refine g_callS (As := [.int p2, .int (gi μ 34 1)]) (rest := []) hx hb (hml.trans hl.1.symm) hown E hM hS hy_X7_needIndex kw_1074 (c_X7_needIndex hq2) rfl rfl (Nat.le_of_ble_eq_true rfl) ⟨Nat.le_of_ble_eq_true rfl, Nat.le_of_ble_eq_true rfl⟩ ⟨Nat.le_of_ble_eq_true rfl, Nat.le_of_ble_eq_true rfl⟩ dX7_riseBetween_19 (fun H locs hM hS => ?_)
  refine lv_aload_n hx hb dX7_riseBetween_22 rfl (lv_at hl 0 rfl) ?_
  refine gg_0_1 hx hb hown E hM hk_0 kw_487 dX7_riseBetween_23 ?_
  refine lv_aload_n hx hb dX7_riseBetween_26 rfl (lv_at hl 0 rfl) ?_
  refine gg_0_5 hx hb hown E hM hk_0 kw_491 dX7_riseBetween_27 ?_
  refine lv_iload_n hx hb dX7_riseBetween_30 rfl (lv_at hl 1 rfl) ?_
  refine lv_iload_n hx hb dX7_riseBetween_31 rfl (lv_at hl 2 rfl) ?_
  obtain ⟨q3, hq3, h⟩ := gbind_e h
  refine g_callV (As := [.ref (ad 34), .int p1, .int p2]) (rest := []) hx hb (hml.trans hl.1.symm) hown E hM hS hy_X6_trace kw_1275 (c_X6_trace hq3) hk_3 dd_3 rfl rfl rfl (Nat.le_of_ble_eq_true rfl) ⟨Nat.le_of_ble_eq_true rfl, Nat.le_of_ble_eq_true rfl⟩ ⟨Nat.le_of_ble_eq_true rfl, Nat.le_of_ble_eq_true rfl⟩ dX7_riseBetween_32 (fun H locs hM hS => ?_)
  refine lv_aload_n hx hb dX7_riseBetween_35 rfl (lv_at hl 0 rfl) ?_
  refine gg_0_1 hx hb hown E hM hk_0 kw_487 dX7_riseBetween_36 ?_
  refine gg_3_0 hx hb hown E hM hk_3 kw_215 dX7_riseBetween_39 ?_
  refine lv_iload_n hx hb dX7_riseBetween_42 rfl (lv_at hl 2 rfl) ?_
  obtain ⟨c4, h⟩ := gchk_e h
  refine g_iald hx hb E hM hk_4 dd_4 c4 dX7_riseBetween_43 ?_
  refine lv_iconst (v := (-1 : Int32)) hx hb dX7_riseBetween_44 (by decide) ?_
  refine lv_icmp_ne (tgt := 53) hx hb dX7_riseBetween_45 (by decide) (fun c5 => ?_) (fun c5 => ?_)
  · replace h := gif_f c5 h
    refine lv_aload_n hx hb dX7_riseBetween_53 rfl (lv_at hl 0 rfl) ?_
    refine gg_0_1 hx hb hown E hM hk_0 kw_487 dX7_riseBetween_54 ?_
    refine gg_3_3 hx hb hown E hM hk_3 kw_220 dX7_riseBetween_57 ?_
    obtain rfl := Option.some.inj h
    exact g_iret hx hb hr hlocks hM hS dX7_riseBetween_60
  · replace h := gif_t c5 h
    refine lv_ldc hx hb hown (v := (-2147483648 : Int32)) (E.kw kw_1225) dX7_riseBetween_48 ?_
    refine lv_goto (tgt := 60) hx hb dX7_riseBetween_50 (by decide) ?_
    obtain rfl := Option.some.inj h
    exact g_iret hx hb hr hlocks hM hS dX7_riseBetween_60
def f_X7_wayBetween (p1 : Int32) (p2 : Int32) (μ : gM) : Option (Int32 × gM) :=
  Option.bind (f_X7_needIndex p1 (gi μ 34 1) μ) (fun q1 => Option.bind (f_X7_needIndex p2 (gi μ 34 1) μ) (fun q2 => Option.bind (f_X6_trace p1 p2 μ) (fun q3 => some ((gi q3 3 2), q3))))
set_option maxHeartbeats 4000000 in
set_option maxRecDepth 100000 in
theorem c_X7_wayBetween {l : Launch} {D : va_G} {cy : Nat → ClassId} {ad : Nat → Nat} {base : gBs} {p1 : Int32} {p2 : Int32} {μ : gM} {RES : Int32 × gM} (h : f_X7_wayBetween p1 p2 μ = some RES) : Met l yX7_wayBetween [.code yX7_wayBetween cX7_wayBetween 3 (some .int)] ({ frames := 5, cells := 0, slots := 0, locals := 116 } : Room) (va_Pc [.ref (ad 0), .int p1, .int p2] (gB l gFull D cy ad base μ)) (gQ (some (.int RES.1)) gFull D cy ad base RES.2) 0 0 (gA base) := by
  refine Met.ofW (cc := cX7_wayBetween) (maxL := 3) (ret := (some .int)) (by decide) rfl ?_
  intro p e s m args below meth c s₁ B hml0 hv
  obtain ⟨rfl, E, hM⟩ := hv
  have F : gF p s m meth c cX7_wayBetween RX7 3 (some .int) := gF_of B hml0
  obtain ⟨hx, hb, hml, hown, hlocks, hr⟩ := id F
  have hS : va_S (gA base) s.heap s.heap [] := va_S.rf
  have hl := lv_entry ([.ref (ad 0), .int p1, .int p2]) (n := 3) (Nat.le_of_ble_eq_true rfl)
  rw [lg_entry_eq]
  generalize (lg_sl ([.ref (ad 0), .int p1, .int p2]) ++ List.replicate (3 - (lg_sl ([.ref (ad 0), .int p1, .int p2])).length) Slot.unset).toArray = ls at hl ⊢
  have hl : lv_has ls 3 [(0, .ref (ad 0)), (1, .int p1), (2, .int p2)] := hl
  unfold f_X7_wayBetween at h
  refine lv_iload_n hx hb dX7_wayBetween_0 rfl (lv_at hl 1 rfl) ?_
  refine lv_aload_n hx hb dX7_wayBetween_1 rfl (lv_at hl 0 rfl) ?_
  refine gg_0_5 hx hb hown E hM hk_0 kw_491 dX7_wayBetween_2 ?_
  refine gg_34_1 hx hb hown E hM hk_34 kw_397 dX7_wayBetween_5 ?_
  obtain ⟨q1, hq1, h⟩ := gbind_e h
  refine g_callS (As := [.int p1, .int (gi μ 34 1)]) (rest := []) hx hb (hml.trans hl.1.symm) hown E hM hS hy_X7_needIndex kw_1074 (c_X7_needIndex hq1) rfl rfl (Nat.le_of_ble_eq_true rfl) ⟨Nat.le_of_ble_eq_true rfl, Nat.le_of_ble_eq_true rfl⟩ ⟨Nat.le_of_ble_eq_true rfl, Nat.le_of_ble_eq_true rfl⟩ dX7_wayBetween_8 (fun H locs hM hS => ?_)
  refine lv_iload_n hx hb dX7_wayBetween_11 rfl (lv_at hl 2 rfl) ?_
  refine lv_aload_n hx hb dX7_wayBetween_12 rfl (lv_at hl 0 rfl) ?_
  refine gg_0_5 hx hb hown E hM hk_0 kw_491 dX7_wayBetween_13 ?_
  refine gg_34_1 hx hb hown E hM hk_34 kw_397 dX7_wayBetween_16 ?_
  obtain ⟨q2, hq2, h⟩ := gbind_e h
  refine g_callS (As := [.int p2, .int (gi μ 34 1)]) (rest := []) hx hb (hml.trans hl.1.symm) hown E hM hS hy_X7_needIndex kw_1074 (c_X7_needIndex hq2) rfl rfl (Nat.le_of_ble_eq_true rfl) ⟨Nat.le_of_ble_eq_true rfl, Nat.le_of_ble_eq_true rfl⟩ ⟨Nat.le_of_ble_eq_true rfl, Nat.le_of_ble_eq_true rfl⟩ dX7_wayBetween_19 (fun H locs hM hS => ?_)
  refine lv_aload_n hx hb dX7_wayBetween_22 rfl (lv_at hl 0 rfl) ?_
  refine gg_0_1 hx hb hown E hM hk_0 kw_487 dX7_wayBetween_23 ?_
  refine lv_aload_n hx hb dX7_wayBetween_26 rfl (lv_at hl 0 rfl) ?_
  refine gg_0_5 hx hb hown E hM hk_0 kw_491 dX7_wayBetween_27 ?_
  refine lv_iload_n hx hb dX7_wayBetween_30 rfl (lv_at hl 1 rfl) ?_
  refine lv_iload_n hx hb dX7_wayBetween_31 rfl (lv_at hl 2 rfl) ?_
  obtain ⟨q3, hq3, h⟩ := gbind_e h
  refine g_callV (As := [.ref (ad 34), .int p1, .int p2]) (rest := []) hx hb (hml.trans hl.1.symm) hown E hM hS hy_X6_trace kw_1275 (c_X6_trace hq3) hk_3 dd_3 rfl rfl rfl (Nat.le_of_ble_eq_true rfl) ⟨Nat.le_of_ble_eq_true rfl, Nat.le_of_ble_eq_true rfl⟩ ⟨Nat.le_of_ble_eq_true rfl, Nat.le_of_ble_eq_true rfl⟩ dX7_wayBetween_32 (fun H locs hM hS => ?_)
  refine lv_aload_n hx hb dX7_wayBetween_35 rfl (lv_at hl 0 rfl) ?_
  refine gg_0_1 hx hb hown E hM hk_0 kw_487 dX7_wayBetween_36 ?_
  refine gg_3_2 hx hb hown E hM hk_3 kw_218 dX7_wayBetween_39 ?_
  obtain rfl := Option.some.inj h
  exact g_iret hx hb hr hlocks hM hS dX7_wayBetween_42
def b_X7_bridges_28 (x1 : Int32) (x2 : Int32) (μ : gM) : Option ((Int32 × Int32) ⊕ (Int32)) :=
  if ((gi μ 6 1) ≤ x2) then some (.inr x1) else gchk (gIn x2 20) (some (.inl ((x1 &&& ((gi μ 14 x2.toNatClampNeg) ^^^ (-1 : Int32))), (x2 + (1 : Int32)))))
set_option maxHeartbeats 4000000 in
set_option maxRecDepth 100000 in
theorem wb_X7_bridges_28 {p : Program} {l : Launch} {e : Env} {s : State} {m : MethodId} {args : Array Value} {below : List Frame} {meth : Method} {c : Code} {D : va_G} {cy : Nat → ClassId} {ad : Nat → Nat} {base : gBs} {x1 : Int32} {x2 : Int32} {μ : gM} {o : (Int32 × Int32) ⊕ (Int32)} {RES : Int32 × gM} (h : b_X7_bridges_28 x1 x2 μ = some o) (F : gF p s m meth c cX7_bridges RX7 3 (some .int)) (E : gEnv l D cy ad base s) (kc : ∀ (t : Int32 × Int32) {H : Heap} {locs : List Loc} {ls : Array Slot}, o = .inl t → gW gFull D cy ad base μ H → va_S (gA base) s.heap H locs → lv_has ls 3 [(0, .ref (ad 0)), (1, .int t.1), (2, .int t.2)] → W p l e ({ frames := 5, cells := 0, slots := 0, locals := 120 } : Room) s m args below meth c H locs 0 0 (MQ below (gQ (some (.int RES.1)) gFull D cy ad base RES.2) args s 0 0 (gA base)) (F0 m 28 ls [])) (kx : ∀ (t : Int32) {H : Heap} {locs : List Loc} {ls : Array Slot}, o = .inr t → gW gFull D cy ad base μ H → va_S (gA base) s.heap H locs → lv_has ls 3 [(1, .int t)] → W p l e ({ frames := 5, cells := 0, slots := 0, locals := 120 } : Room) s m args below meth c H locs 0 0 (MQ below (gQ (some (.int RES.1)) gFull D cy ad base RES.2) args s 0 0 (gA base)) (F0 m 59 ls []))  {H : Heap} {locs : List Loc} {ls : Array Slot} (hM : gW gFull D cy ad base μ H) (hS : va_S (gA base) s.heap H locs) (hl : lv_has ls 3 [(0, .ref (ad 0)), (1, .int x1), (2, .int x2)]) : W p l e ({ frames := 5, cells := 0, slots := 0, locals := 120 } : Room) s m args below meth c H locs 0 0 (MQ below (gQ (some (.int RES.1)) gFull D cy ad base RES.2) args s 0 0 (gA base)) (F0 m 28 ls []) := by
  obtain ⟨hx, hb, hml, hown, hlocks, hr⟩ := id F
  unfold b_X7_bridges_28 at h
  refine lv_iload_n hx hb dX7_bridges_28 rfl (lv_at hl 2 rfl) ?_
  refine lv_aload_n hx hb dX7_bridges_29 rfl (lv_at hl 0 rfl) ?_
  refine gg_0_2 hx hb hown E hM hk_0 kw_488 dX7_bridges_30 ?_
  refine gg_6_1 hx hb hown E hM hk_6 kw_275 dX7_bridges_33 ?_
  refine lv_icmp_ge (tgt := 59) hx hb dX7_bridges_36 (by decide) (fun c2 => ?_) (fun c2 => ?_)
  · replace h := gif_t c2 h
    exact kx _ (Option.some.inj h).symm hM hS (lv_sub hl [1] rfl)
  · replace h := gif_f c2 h
    refine lv_iload_n hx hb dX7_bridges_39 rfl (lv_at hl 1 rfl) ?_
    refine lv_aload_n hx hb dX7_bridges_40 rfl (lv_at hl 0 rfl) ?_
    refine gg_0_2 hx hb hown E hM hk_0 kw_488 dX7_bridges_41 ?_
    refine gg_6_3 hx hb hown E hM hk_6 kw_279 dX7_bridges_44 ?_
    refine lv_iload_n hx hb dX7_bridges_47 rfl (lv_at hl 2 rfl) ?_
    obtain ⟨c3, h⟩ := gchk_e h
    refine g_iald hx hb E hM hk_14 dd_14 c3 dX7_bridges_48 ?_
    refine lv_iconst (v := (-1 : Int32)) hx hb dX7_bridges_49 (by decide) ?_
    refine lv_ixor hx hb dX7_bridges_50 ?_
    refine lv_iand hx hb dX7_bridges_51 ?_
    refine lv_istore_n (lv' := [(1, .int (x1 &&& ((gi μ 14 x2.toNatClampNeg) ^^^ (-1 : Int32)))), (0, .ref (ad 0)), (2, .int x2)]) hx hb dX7_bridges_52 rfl hl (by decide) rfl (fun ls hl => ?_)
    refine lv_iinc (v := (x2 + (1 : Int32))) (lv' := [(2, .int (x2 + (1 : Int32))), (1, .int (x1 &&& ((gi μ 14 x2.toNatClampNeg) ^^^ (-1 : Int32)))), (0, .ref (ad 0))]) hx hb dX7_bridges_53 hl (k := 2) rfl rfl (by decide) rfl (fun ls hl => ?_)
    refine lv_goto (tgt := 28) hx hb dX7_bridges_56 (by decide) ?_
    exact kc _ (Option.some.inj h).symm hM hS (lv_sub hl [2, 1, 0] rfl)
set_option maxHeartbeats 4000000 in
theorem wl_X7_bridges_28 {p : Program} {l : Launch} {e : Env} {s : State} {m : MethodId} {args : Array Value} {below : List Frame} {meth : Method} {c : Code} {D : va_G} {cy : Nat → ClassId} {ad : Nat → Nat} {base : gBs}  {μ : gM} {r : Int32} {RES : Int32 × gM} (F : gF p s m meth c cX7_bridges RX7 3 (some .int)) (E : gEnv l D cy ad base s) (kx : ∀ (t : Int32) {H : Heap} {locs : List Loc} {ls : Array Slot}, r = t → gW gFull D cy ad base μ H → va_S (gA base) s.heap H locs → lv_has ls 3 [(1, .int t)] → W p l e ({ frames := 5, cells := 0, slots := 0, locals := 120 } : Room) s m args below meth c H locs 0 0 (MQ below (gQ (some (.int RES.1)) gFull D cy ad base RES.2) args s 0 0 (gA base)) (F0 m 59 ls []))  : ∀ (n : Nat) (x1 : Int32) (x2 : Int32), gloop (fun t => b_X7_bridges_28  t.1 t.2 μ) n (x1, x2) = some r → ∀ {H : Heap} {locs : List Loc} {ls : Array Slot}, gW gFull D cy ad base μ H → va_S (gA base) s.heap H locs → lv_has ls 3 [(0, .ref (ad 0)), (1, .int x1), (2, .int x2)] → W p l e ({ frames := 5, cells := 0, slots := 0, locals := 120 } : Room) s m args below meth c H locs 0 0 (MQ below (gQ (some (.int RES.1)) gFull D cy ad base RES.2) args s 0 0 (gA base)) (F0 m 28 ls []) := by
  intro n
  induction n with
  | zero =>
    intro x1 x2 h
    exact (gloop_0 h).elim
  | succ n ih =>
    intro x1 x2 h H locs ls hM hS hl
    obtain ⟨o, h0, hc, hq⟩ := gloop_s h
    have h1 : b_X7_bridges_28 x1 x2 μ = some o := h0
    exact wb_X7_bridges_28 h1 F E (fun t H locs ls ho hM hS hl => ih t.1 t.2 (hc t ho) hM hS hl) (fun t H locs ls ho hM hS hl => kx t (hq _ ho).symm hM hS hl) hM hS hl
def f_X7_bridges (μ : gM) : Option (Int32 × gM) :=
  Option.bind (f_X2_find (gi μ 34 4) μ) (fun q1 => Option.bind (gloop (fun t => b_X7_bridges_28  t.1 t.2 q1) gFuel ((gi q1 34 4), (0 : Int32))) (fun q4 => some (q4, q1)))
set_option maxHeartbeats 4000000 in
set_option maxRecDepth 100000 in
theorem c_X7_bridges {l : Launch} {D : va_G} {cy : Nat → ClassId} {ad : Nat → Nat} {base : gBs}  {μ : gM} {RES : Int32 × gM} (h : f_X7_bridges  μ = some RES) : Met l yX7_bridges [.code yX7_bridges cX7_bridges 3 (some .int)] ({ frames := 5, cells := 0, slots := 0, locals := 120 } : Room) (va_Pc [.ref (ad 0)] (gB l gFull D cy ad base μ)) (gQ (some (.int RES.1)) gFull D cy ad base RES.2) 0 0 (gA base) := by
  refine Met.ofW (cc := cX7_bridges) (maxL := 3) (ret := (some .int)) (by decide) rfl ?_
  intro p e s m args below meth c s₁ B hml0 hv
  obtain ⟨rfl, E, hM⟩ := hv
  have F : gF p s m meth c cX7_bridges RX7 3 (some .int) := gF_of B hml0
  obtain ⟨hx, hb, hml, hown, hlocks, hr⟩ := id F
  have hS : va_S (gA base) s.heap s.heap [] := va_S.rf
  have hl := lv_entry ([.ref (ad 0)]) (n := 3) (Nat.le_of_ble_eq_true rfl)
  rw [lg_entry_eq]
  generalize (lg_sl ([.ref (ad 0)]) ++ List.replicate (3 - (lg_sl ([.ref (ad 0)])).length) Slot.unset).toArray = ls at hl ⊢
  have hl : lv_has ls 3 [(0, .ref (ad 0))] := hl
  unfold f_X7_bridges at h
  refine lv_aload_n hx hb dX7_bridges_0 rfl (lv_at hl 0 rfl) ?_
  refine gg_0_2 hx hb hown E hM hk_0 kw_488 dX7_bridges_1 ?_
  refine lv_aload_n hx hb dX7_bridges_4 rfl (lv_at hl 0 rfl) ?_
  refine gg_0_5 hx hb hown E hM hk_0 kw_491 dX7_bridges_5 ?_
  refine lv_aload_n hx hb dX7_bridges_8 rfl (lv_at hl 0 rfl) ?_
  refine gg_0_5 hx hb hown E hM hk_0 kw_491 dX7_bridges_9 ?_
  refine gg_34_4 hx hb hown E hM hk_34 kw_411 dX7_bridges_12 ?_
  obtain ⟨q1, hq1, h⟩ := gbind_e h
  refine g_callV (As := [.ref (ad 34), .int (gi μ 34 4)]) (rest := []) hx hb (hml.trans hl.1.symm) hown E hM hS hy_X2_find kw_1299 (c_X2_find hq1) hk_6 dd_6 rfl rfl rfl (Nat.le_of_ble_eq_true rfl) ⟨Nat.le_of_ble_eq_true rfl, Nat.le_of_ble_eq_true rfl⟩ ⟨Nat.le_of_ble_eq_true rfl, Nat.le_of_ble_eq_true rfl⟩ dX7_bridges_15 (fun H locs hM hS => ?_)
  refine lv_aload_n hx hb dX7_bridges_18 rfl (lv_at hl 0 rfl) ?_
  refine gg_0_5 hx hb hown E hM hk_0 kw_491 dX7_bridges_19 ?_
  refine gg_34_4 hx hb hown E hM hk_34 kw_411 dX7_bridges_22 ?_
  refine lv_istore_n (lv' := [(1, .int (gi q1 34 4)), (0, .ref (ad 0))]) hx hb dX7_bridges_25 rfl hl (by decide) rfl (fun ls hl => ?_)
  refine lv_iconst (v := (0 : Int32)) hx hb dX7_bridges_26 (by decide) ?_
  refine lv_istore_n (lv' := [(2, .int (0 : Int32)), (1, .int (gi q1 34 4)), (0, .ref (ad 0))]) hx hb dX7_bridges_27 rfl hl (by decide) rfl (fun ls hl => ?_)
  obtain ⟨z5, h1, h⟩ := gbind_e h
  refine wl_X7_bridges_28 F E (r := z5) (fun q4 H locs ls e1 hM hS hl => ?_) gFuel (gi q1 34 4) (0 : Int32) h1 hM hS (lv_sub hl [2, 1, 0] rfl)
  replace e1 : z5 = q4 := e1
  rw [e1] at h
  refine lv_iload_n hx hb dX7_bridges_59 rfl (lv_at hl 0 rfl) ?_
  obtain rfl := Option.some.inj h
  exact g_iret hx hb hr hlocks hM hS dX7_bridges_60
def f_X7_treeLines (μ : gM) : Option (Int32 × gM) :=
  Option.bind (f_X5_grow (gi μ 34 4) μ) (fun q1 => some ((gi q1 7 5), q1))
set_option maxHeartbeats 4000000 in
set_option maxRecDepth 100000 in
theorem c_X7_treeLines {l : Launch} {D : va_G} {cy : Nat → ClassId} {ad : Nat → Nat} {base : gBs}  {μ : gM} {RES : Int32 × gM} (h : f_X7_treeLines  μ = some RES) : Met l yX7_treeLines [.code yX7_treeLines cX7_treeLines 1 (some .int)] ({ frames := 3, cells := 0, slots := 0, locals := 74 } : Room) (va_Pc [.ref (ad 0)] (gB l gFull D cy ad base μ)) (gQ (some (.int RES.1)) gFull D cy ad base RES.2) 0 0 (gA base) := by
  refine Met.ofW (cc := cX7_treeLines) (maxL := 1) (ret := (some .int)) (by decide) rfl ?_
  intro p e s m args below meth c s₁ B hml0 hv
  obtain ⟨rfl, E, hM⟩ := hv
  have F : gF p s m meth c cX7_treeLines RX7 1 (some .int) := gF_of B hml0
  obtain ⟨hx, hb, hml, hown, hlocks, hr⟩ := id F
  have hS : va_S (gA base) s.heap s.heap [] := va_S.rf
  have hl := lv_entry ([.ref (ad 0)]) (n := 1) (Nat.le_of_ble_eq_true rfl)
  rw [lg_entry_eq]
  generalize (lg_sl ([.ref (ad 0)]) ++ List.replicate (1 - (lg_sl ([.ref (ad 0)])).length) Slot.unset).toArray = ls at hl ⊢
  have hl : lv_has ls 1 [(0, .ref (ad 0))] := hl
  unfold f_X7_treeLines at h
  refine lv_aload_n hx hb dX7_treeLines_0 rfl (lv_at hl 0 rfl) ?_
  refine gg_0_2 hx hb hown E hM hk_0 kw_488 dX7_treeLines_1 ?_
  refine gg_6_0 hx hb hown E hM hk_6 kw_273 dX7_treeLines_4 ?_
  refine lv_aload_n hx hb dX7_treeLines_7 rfl (lv_at hl 0 rfl) ?_
  refine gg_0_5 hx hb hown E hM hk_0 kw_491 dX7_treeLines_8 ?_
  refine lv_aload_n hx hb dX7_treeLines_11 rfl (lv_at hl 0 rfl) ?_
  refine gg_0_5 hx hb hown E hM hk_0 kw_491 dX7_treeLines_12 ?_
  refine gg_34_4 hx hb hown E hM hk_34 kw_411 dX7_treeLines_15 ?_
  obtain ⟨q1, hq1, h⟩ := gbind_e h
  refine g_callV (As := [.ref (ad 34), .int (gi μ 34 4)]) (rest := []) hx hb (hml.trans hl.1.symm) hown E hM hS hy_X5_grow kw_1240 (c_X5_grow hq1) hk_7 dd_7 rfl rfl rfl (Nat.le_of_ble_eq_true rfl) ⟨Nat.le_of_ble_eq_true rfl, Nat.le_of_ble_eq_true rfl⟩ ⟨Nat.le_of_ble_eq_true rfl, Nat.le_of_ble_eq_true rfl⟩ dX7_treeLines_18 (fun H locs hM hS => ?_)
  refine lv_aload_n hx hb dX7_treeLines_21 rfl (lv_at hl 0 rfl) ?_
  refine gg_0_2 hx hb hown E hM hk_0 kw_488 dX7_treeLines_22 ?_
  refine gg_6_0 hx hb hown E hM hk_6 kw_273 dX7_treeLines_25 ?_
  refine gg_7_5 hx hb hown E hM hk_7 kw_254 dX7_treeLines_28 ?_
  obtain rfl := Option.some.inj h
  exact g_iret hx hb hr hlocks hM hS dX7_treeLines_31
def f_X7_countLoops (μ : gM) : Option (Int32 × gM) :=
  Option.bind (f_X5_grow (gi μ 34 4) μ) (fun q1 => Option.bind (f_J6_bitCount_0f7a4 ((gi q1 34 4) &&& ((gi q1 7 5) ^^^ (-1 : Int32))) q1) (fun q2 => some (q2, q1)))
set_option maxHeartbeats 4000000 in
set_option maxRecDepth 100000 in
theorem c_X7_countLoops {l : Launch} {D : va_G} {cy : Nat → ClassId} {ad : Nat → Nat} {base : gBs}  {μ : gM} {RES : Int32 × gM} (h : f_X7_countLoops  μ = some RES) : Met l yX7_countLoops [.code yX7_countLoops cX7_countLoops 1 (some .int)] ({ frames := 3, cells := 0, slots := 0, locals := 74 } : Room) (va_Pc [.ref (ad 0)] (gB l gFull D cy ad base μ)) (gQ (some (.int RES.1)) gFull D cy ad base RES.2) 0 0 (gA base) := by
  refine Met.ofW (cc := cX7_countLoops) (maxL := 1) (ret := (some .int)) (by decide) rfl ?_
  intro p e s m args below meth c s₁ B hml0 hv
  obtain ⟨rfl, E, hM⟩ := hv
  have F : gF p s m meth c cX7_countLoops RX7 1 (some .int) := gF_of B hml0
  obtain ⟨hx, hb, hml, hown, hlocks, hr⟩ := id F
  have hS : va_S (gA base) s.heap s.heap [] := va_S.rf
  have hl := lv_entry ([.ref (ad 0)]) (n := 1) (Nat.le_of_ble_eq_true rfl)
  rw [lg_entry_eq]
  generalize (lg_sl ([.ref (ad 0)]) ++ List.replicate (1 - (lg_sl ([.ref (ad 0)])).length) Slot.unset).toArray = ls at hl ⊢
  have hl : lv_has ls 1 [(0, .ref (ad 0))] := hl
  unfold f_X7_countLoops at h
  refine lv_aload_n hx hb dX7_countLoops_0 rfl (lv_at hl 0 rfl) ?_
  refine gg_0_2 hx hb hown E hM hk_0 kw_488 dX7_countLoops_1 ?_
  refine gg_6_0 hx hb hown E hM hk_6 kw_273 dX7_countLoops_4 ?_
  refine lv_aload_n hx hb dX7_countLoops_7 rfl (lv_at hl 0 rfl) ?_
  refine gg_0_5 hx hb hown E hM hk_0 kw_491 dX7_countLoops_8 ?_
  refine lv_aload_n hx hb dX7_countLoops_11 rfl (lv_at hl 0 rfl) ?_
  refine gg_0_5 hx hb hown E hM hk_0 kw_491 dX7_countLoops_12 ?_
  refine gg_34_4 hx hb hown E hM hk_34 kw_411 dX7_countLoops_15 ?_
  obtain ⟨q1, hq1, h⟩ := gbind_e h
  refine g_callV (As := [.ref (ad 34), .int (gi μ 34 4)]) (rest := []) hx hb (hml.trans hl.1.symm) hown E hM hS hy_X5_grow kw_1240 (c_X5_grow hq1) hk_7 dd_7 rfl rfl rfl (Nat.le_of_ble_eq_true rfl) ⟨Nat.le_of_ble_eq_true rfl, Nat.le_of_ble_eq_true rfl⟩ ⟨Nat.le_of_ble_eq_true rfl, Nat.le_of_ble_eq_true rfl⟩ dX7_countLoops_18 (fun H locs hM hS => ?_)
  refine lv_aload_n hx hb dX7_countLoops_21 rfl (lv_at hl 0 rfl) ?_
  refine gg_0_5 hx hb hown E hM hk_0 kw_491 dX7_countLoops_22 ?_
  refine gg_34_4 hx hb hown E hM hk_34 kw_411 dX7_countLoops_25 ?_
  refine lv_aload_n hx hb dX7_countLoops_28 rfl (lv_at hl 0 rfl) ?_
  refine gg_0_2 hx hb hown E hM hk_0 kw_488 dX7_countLoops_29 ?_
  refine gg_6_0 hx hb hown E hM hk_6 kw_273 dX7_countLoops_32 ?_
  refine gg_7_5 hx hb hown E hM hk_7 kw_254 dX7_countLoops_35 ?_
  refine lv_iconst (v := (-1 : Int32)) hx hb dX7_countLoops_38 (by decide) ?_
  refine lv_ixor hx hb dX7_countLoops_39 ?_
  refine lv_iand hx hb dX7_countLoops_40 ?_
  obtain ⟨q2, hq2, h⟩ := gbind_e h
  refine g_callS (As := [.int ((gi q1 34 4) &&& ((gi q1 7 5) ^^^ (-1 : Int32)))]) (rest := []) hx hb (hml.trans hl.1.symm) hown E hM hS hy_J6_bitCount_0f7a4 kw_1345 (c_J6_bitCount_0f7a4 hq2) rfl rfl (Nat.le_of_ble_eq_true rfl) ⟨Nat.le_of_ble_eq_true rfl, Nat.le_of_ble_eq_true rfl⟩ ⟨Nat.le_of_ble_eq_true rfl, Nat.le_of_ble_eq_true rfl⟩ dX7_countLoops_41 (fun H locs hM hS => ?_)
  obtain rfl := Option.some.inj h
  exact g_iret hx hb hr hlocks hM hS dX7_countLoops_44
def f_X7_loopCount (μ : gM) : Option (Int32 × gM) :=
  Option.bind (f_X7_countLoops  μ) (fun q1 => some (q1.1, q1.2))
set_option maxHeartbeats 4000000 in
set_option maxRecDepth 100000 in
theorem c_X7_loopCount {l : Launch} {D : va_G} {cy : Nat → ClassId} {ad : Nat → Nat} {base : gBs}  {μ : gM} {RES : Int32 × gM} (h : f_X7_loopCount  μ = some RES) : Met l yX7_loopCount [.code yX7_loopCount cX7_loopCount 1 (some .int)] ({ frames := 4, cells := 0, slots := 0, locals := 94 } : Room) (va_Pc [.ref (ad 0)] (gB l gFull D cy ad base μ)) (gQ (some (.int RES.1)) gFull D cy ad base RES.2) 0 0 (gA base) := by
  refine Met.ofW (cc := cX7_loopCount) (maxL := 1) (ret := (some .int)) (by decide) rfl ?_
  intro p e s m args below meth c s₁ B hml0 hv
  obtain ⟨rfl, E, hM⟩ := hv
  have F : gF p s m meth c cX7_loopCount RX7 1 (some .int) := gF_of B hml0
  obtain ⟨hx, hb, hml, hown, hlocks, hr⟩ := id F
  have hS : va_S (gA base) s.heap s.heap [] := va_S.rf
  have hl := lv_entry ([.ref (ad 0)]) (n := 1) (Nat.le_of_ble_eq_true rfl)
  rw [lg_entry_eq]
  generalize (lg_sl ([.ref (ad 0)]) ++ List.replicate (1 - (lg_sl ([.ref (ad 0)])).length) Slot.unset).toArray = ls at hl ⊢
  have hl : lv_has ls 1 [(0, .ref (ad 0))] := hl
  unfold f_X7_loopCount at h
  refine lv_aload_n hx hb dX7_loopCount_0 rfl (lv_at hl 0 rfl) ?_
  obtain ⟨q1, hq1, h⟩ := gbind_e h
  refine g_callV (As := []) (rest := []) hx hb (hml.trans hl.1.symm) hown E hM hS hy_X7_countLoops kw_1341 (c_X7_countLoops hq1) hk_0 dd_0 rfl rfl rfl (Nat.le_of_ble_eq_true rfl) ⟨Nat.le_of_ble_eq_true rfl, Nat.le_of_ble_eq_true rfl⟩ ⟨Nat.le_of_ble_eq_true rfl, Nat.le_of_ble_eq_true rfl⟩ dX7_loopCount_1 (fun H locs hM hS => ?_)
  obtain rfl := Option.some.inj h
  exact g_iret hx hb hr hlocks hM hS dX7_loopCount_4
def f_X7_needLoop (p1 : Int32) (μ : gM) : Option (gM) :=
  Option.bind (f_X2_find (gi μ 34 4) μ) (fun q1 => Option.bind (f_X7_needIndex p1 (gi q1 6 1) q1) (fun q2 => some q1))
set_option maxHeartbeats 4000000 in
set_option maxRecDepth 100000 in
theorem c_X7_needLoop {l : Launch} {D : va_G} {cy : Nat → ClassId} {ad : Nat → Nat} {base : gBs} {p1 : Int32} {μ : gM} {RES : gM} (h : f_X7_needLoop p1 μ = some RES) : Met l yX7_needLoop [.code yX7_needLoop cX7_needLoop 2 none] ({ frames := 5, cells := 0, slots := 0, locals := 120 } : Room) (va_Pc [.ref (ad 0), .int p1] (gB l gFull D cy ad base μ)) (gQ none gFull D cy ad base RES) 0 0 (gA base) := by
  refine Met.ofW (cc := cX7_needLoop) (maxL := 2) (ret := none) (by decide) rfl ?_
  intro p e s m args below meth c s₁ B hml0 hv
  obtain ⟨rfl, E, hM⟩ := hv
  have F : gF p s m meth c cX7_needLoop RX7 2 none := gF_of B hml0
  obtain ⟨hx, hb, hml, hown, hlocks, hr⟩ := id F
  have hS : va_S (gA base) s.heap s.heap [] := va_S.rf
  have hl := lv_entry ([.ref (ad 0), .int p1]) (n := 2) (Nat.le_of_ble_eq_true rfl)
  rw [lg_entry_eq]
  generalize (lg_sl ([.ref (ad 0), .int p1]) ++ List.replicate (2 - (lg_sl ([.ref (ad 0), .int p1])).length) Slot.unset).toArray = ls at hl ⊢
  have hl : lv_has ls 2 [(0, .ref (ad 0)), (1, .int p1)] := hl
  unfold f_X7_needLoop at h
  refine lv_aload_n hx hb dX7_needLoop_0 rfl (lv_at hl 0 rfl) ?_
  refine gg_0_2 hx hb hown E hM hk_0 kw_488 dX7_needLoop_1 ?_
  refine lv_aload_n hx hb dX7_needLoop_4 rfl (lv_at hl 0 rfl) ?_
  refine gg_0_5 hx hb hown E hM hk_0 kw_491 dX7_needLoop_5 ?_
  refine lv_aload_n hx hb dX7_needLoop_8 rfl (lv_at hl 0 rfl) ?_
  refine gg_0_5 hx hb hown E hM hk_0 kw_491 dX7_needLoop_9 ?_
  refine gg_34_4 hx hb hown E hM hk_34 kw_411 dX7_needLoop_12 ?_
  obtain ⟨q1, hq1, h⟩ := gbind_e h
  refine g_callV (As := [.ref (ad 34), .int (gi μ 34 4)]) (rest := []) hx hb (hml.trans hl.1.symm) hown E hM hS hy_X2_find kw_1299 (c_X2_find hq1) hk_6 dd_6 rfl rfl rfl (Nat.le_of_ble_eq_true rfl) ⟨Nat.le_of_ble_eq_true rfl, Nat.le_of_ble_eq_true rfl⟩ ⟨Nat.le_of_ble_eq_true rfl, Nat.le_of_ble_eq_true rfl⟩ dX7_needLoop_15 (fun H locs hM hS => ?_)
  refine lv_iload_n hx hb dX7_needLoop_18 rfl (lv_at hl 1 rfl) ?_
  refine lv_aload_n hx hb dX7_needLoop_19 rfl (lv_at hl 0 rfl) ?_
  refine gg_0_2 hx hb hown E hM hk_0 kw_488 dX7_needLoop_20 ?_
  refine gg_6_1 hx hb hown E hM hk_6 kw_275 dX7_needLoop_23 ?_
  obtain ⟨q2, hq2, h⟩ := gbind_e h
  refine g_callS (As := [.int p1, .int (gi q1 6 1)]) (rest := []) hx hb (hml.trans hl.1.symm) hown E hM hS hy_X7_needIndex kw_1074 (c_X7_needIndex hq2) rfl rfl (Nat.le_of_ble_eq_true rfl) ⟨Nat.le_of_ble_eq_true rfl, Nat.le_of_ble_eq_true rfl⟩ ⟨Nat.le_of_ble_eq_true rfl, Nat.le_of_ble_eq_true rfl⟩ dX7_needLoop_26 (fun H locs hM hS => ?_)
  obtain rfl := Option.some.inj h
  exact g_vret hx hb hr hlocks hM hS dX7_needLoop_29
def f_X7_loopLine (p1 : Int32) (p2 : Int32) (μ : gM) : Option (Int32 × gM) :=
  Option.bind (f_X7_needLoop p1 μ) (fun q1 => gchk (gIn p1 20) (Option.bind (f_X2_walk (gi q1 13 p1.toNatClampNeg) q1) (fun q3 => Option.bind (f_X7_isIndex p2 (gi q3 6 8) q3) (fun q4 => if ((b2i q4) = 0) then some ((-1 : Int32), q3) else gchk (gIn p2 17) (some ((gi q3 18 p2.toNatClampNeg), q3))))))
set_option maxHeartbeats 4000000 in
set_option maxRecDepth 100000 in
theorem c_X7_loopLine {l : Launch} {D : va_G} {cy : Nat → ClassId} {ad : Nat → Nat} {base : gBs} {p1 : Int32} {p2 : Int32} {μ : gM} {RES : Int32 × gM} (h : f_X7_loopLine p1 p2 μ = some RES) : Met l yX7_loopLine [.code yX7_loopLine cX7_loopLine 3 (some .int)] ({ frames := 6, cells := 0, slots := 0, locals := 141 } : Room) (va_Pc [.ref (ad 0), .int p1, .int p2] (gB l gFull D cy ad base μ)) (gQ (some (.int RES.1)) gFull D cy ad base RES.2) 0 0 (gA base) := by
  refine Met.ofW (cc := cX7_loopLine) (maxL := 3) (ret := (some .int)) (by decide) rfl ?_
  intro p e s m args below meth c s₁ B hml0 hv
  obtain ⟨rfl, E, hM⟩ := hv
  have F : gF p s m meth c cX7_loopLine RX7 3 (some .int) := gF_of B hml0
  obtain ⟨hx, hb, hml, hown, hlocks, hr⟩ := id F
  have hS : va_S (gA base) s.heap s.heap [] := va_S.rf
  have hl := lv_entry ([.ref (ad 0), .int p1, .int p2]) (n := 3) (Nat.le_of_ble_eq_true rfl)
  rw [lg_entry_eq]
  generalize (lg_sl ([.ref (ad 0), .int p1, .int p2]) ++ List.replicate (3 - (lg_sl ([.ref (ad 0), .int p1, .int p2])).length) Slot.unset).toArray = ls at hl ⊢
  have hl : lv_has ls 3 [(0, .ref (ad 0)), (1, .int p1), (2, .int p2)] := hl
  unfold f_X7_loopLine at h
  refine lv_aload_n hx hb dX7_loopLine_0 rfl (lv_at hl 0 rfl) ?_
  refine lv_iload_n hx hb dX7_loopLine_1 rfl (lv_at hl 1 rfl) ?_
  obtain ⟨q1, hq1, h⟩ := gbind_e h
  refine g_callV (As := [.int p1]) (rest := []) hx hb (hml.trans hl.1.symm) hown E hM hS hy_X7_needLoop kw_1350 (c_X7_needLoop hq1) hk_0 dd_0 rfl rfl rfl (Nat.le_of_ble_eq_true rfl) ⟨Nat.le_of_ble_eq_true rfl, Nat.le_of_ble_eq_true rfl⟩ ⟨Nat.le_of_ble_eq_true rfl, Nat.le_of_ble_eq_true rfl⟩ dX7_loopLine_2 (fun H locs hM hS => ?_)
  refine lv_aload_n hx hb dX7_loopLine_5 rfl (lv_at hl 0 rfl) ?_
  refine gg_0_2 hx hb hown E hM hk_0 kw_488 dX7_loopLine_6 ?_
  refine lv_aload_n hx hb dX7_loopLine_9 rfl (lv_at hl 0 rfl) ?_
  refine gg_0_5 hx hb hown E hM hk_0 kw_491 dX7_loopLine_10 ?_
  refine lv_aload_n hx hb dX7_loopLine_13 rfl (lv_at hl 0 rfl) ?_
  refine gg_0_2 hx hb hown E hM hk_0 kw_488 dX7_loopLine_14 ?_
  refine gg_6_2 hx hb hown E hM hk_6 kw_277 dX7_loopLine_17 ?_
  refine lv_iload_n hx hb dX7_loopLine_20 rfl (lv_at hl 1 rfl) ?_
  obtain ⟨c2, h⟩ := gchk_e h
  refine g_iald hx hb E hM hk_13 dd_13 c2 dX7_loopLine_21 ?_
  obtain ⟨q3, hq3, h⟩ := gbind_e h
  refine g_callV (As := [.ref (ad 34), .int (gi q1 13 p1.toNatClampNeg)]) (rest := []) hx hb (hml.trans hl.1.symm) hown E hM hS hy_X2_walk kw_1354 (c_X2_walk hq3) hk_6 dd_6 rfl rfl rfl (Nat.le_of_ble_eq_true rfl) ⟨Nat.le_of_ble_eq_true rfl, Nat.le_of_ble_eq_true rfl⟩ ⟨Nat.le_of_ble_eq_true rfl, Nat.le_of_ble_eq_true rfl⟩ dX7_loopLine_22 (fun H locs hM hS => ?_)
  refine lv_iload_n hx hb dX7_loopLine_25 rfl (lv_at hl 2 rfl) ?_
  refine lv_aload_n hx hb dX7_loopLine_26 rfl (lv_at hl 0 rfl) ?_
  refine gg_0_2 hx hb hown E hM hk_0 kw_488 dX7_loopLine_27 ?_
  refine gg_6_8 hx hb hown E hM hk_6 kw_289 dX7_loopLine_30 ?_
  obtain ⟨q4, hq4, h⟩ := gbind_e h
  refine g_callS (As := [.int p2, .int (gi q3 6 8)]) (rest := []) hx hb (hml.trans hl.1.symm) hown E hM hS hy_X7_isIndex kw_1077 (c_X7_isIndex hq4) rfl rfl (Nat.le_of_ble_eq_true rfl) ⟨Nat.le_of_ble_eq_true rfl, Nat.le_of_ble_eq_true rfl⟩ ⟨Nat.le_of_ble_eq_true rfl, Nat.le_of_ble_eq_true rfl⟩ dX7_loopLine_33 (fun H locs hM hS => ?_)
  refine lv_if_ne (tgt := 41) hx hb dX7_loopLine_36 (by decide) (fun c5 => ?_) (fun c5 => ?_)
  · replace h := gif_f c5 h
    refine lv_aload_n hx hb dX7_loopLine_41 rfl (lv_at hl 0 rfl) ?_
    refine gg_0_2 hx hb hown E hM hk_0 kw_488 dX7_loopLine_42 ?_
    refine gg_6_7 hx hb hown E hM hk_6 kw_287 dX7_loopLine_45 ?_
    refine lv_iload_n hx hb dX7_loopLine_48 rfl (lv_at hl 2 rfl) ?_
    obtain ⟨c6, h⟩ := gchk_e h
    refine g_iald hx hb E hM hk_18 dd_18 c6 dX7_loopLine_49 ?_
    obtain rfl := Option.some.inj h
    exact g_iret hx hb hr hlocks hM hS dX7_loopLine_50
  · replace h := gif_t c5 h
    refine lv_iconst (v := (-1 : Int32)) hx hb dX7_loopLine_39 (by decide) ?_
    obtain rfl := Option.some.inj h
    exact g_iret hx hb hr hlocks hM hS dX7_loopLine_40
def f_X7_loopLength (p1 : Int32) (μ : gM) : Option (Int32 × gM) :=
  Option.bind (f_X7_needLoop p1 μ) (fun q1 => gchk (gIn p1 20) (some ((gi q1 15 p1.toNatClampNeg), q1)))
set_option maxHeartbeats 4000000 in
set_option maxRecDepth 100000 in
theorem c_X7_loopLength {l : Launch} {D : va_G} {cy : Nat → ClassId} {ad : Nat → Nat} {base : gBs} {p1 : Int32} {μ : gM} {RES : Int32 × gM} (h : f_X7_loopLength p1 μ = some RES) : Met l yX7_loopLength [.code yX7_loopLength cX7_loopLength 2 (some .int)] ({ frames := 6, cells := 0, slots := 0, locals := 141 } : Room) (va_Pc [.ref (ad 0), .int p1] (gB l gFull D cy ad base μ)) (gQ (some (.int RES.1)) gFull D cy ad base RES.2) 0 0 (gA base) := by
  refine Met.ofW (cc := cX7_loopLength) (maxL := 2) (ret := (some .int)) (by decide) rfl ?_
  intro p e s m args below meth c s₁ B hml0 hv
  obtain ⟨rfl, E, hM⟩ := hv
  have F : gF p s m meth c cX7_loopLength RX7 2 (some .int) := gF_of B hml0
  obtain ⟨hx, hb, hml, hown, hlocks, hr⟩ := id F
  have hS : va_S (gA base) s.heap s.heap [] := va_S.rf
  have hl := lv_entry ([.ref (ad 0), .int p1]) (n := 2) (Nat.le_of_ble_eq_true rfl)
  rw [lg_entry_eq]
  generalize (lg_sl ([.ref (ad 0), .int p1]) ++ List.replicate (2 - (lg_sl ([.ref (ad 0), .int p1])).length) Slot.unset).toArray = ls at hl ⊢
  have hl : lv_has ls 2 [(0, .ref (ad 0)), (1, .int p1)] := hl
  unfold f_X7_loopLength at h
  refine lv_aload_n hx hb dX7_loopLength_0 rfl (lv_at hl 0 rfl) ?_
  refine lv_iload_n hx hb dX7_loopLength_1 rfl (lv_at hl 1 rfl) ?_
  obtain ⟨q1, hq1, h⟩ := gbind_e h
  refine g_callV (As := [.int p1]) (rest := []) hx hb (hml.trans hl.1.symm) hown E hM hS hy_X7_needLoop kw_1350 (c_X7_needLoop hq1) hk_0 dd_0 rfl rfl rfl (Nat.le_of_ble_eq_true rfl) ⟨Nat.le_of_ble_eq_true rfl, Nat.le_of_ble_eq_true rfl⟩ ⟨Nat.le_of_ble_eq_true rfl, Nat.le_of_ble_eq_true rfl⟩ dX7_loopLength_2 (fun H locs hM hS => ?_)
  refine lv_aload_n hx hb dX7_loopLength_5 rfl (lv_at hl 0 rfl) ?_
  refine gg_0_2 hx hb hown E hM hk_0 kw_488 dX7_loopLength_6 ?_
  refine gg_6_4 hx hb hown E hM hk_6 kw_281 dX7_loopLength_9 ?_
  refine lv_iload_n hx hb dX7_loopLength_12 rfl (lv_at hl 1 rfl) ?_
  obtain ⟨c2, h⟩ := gchk_e h
  refine g_iald hx hb E hM hk_15 dd_15 c2 dX7_loopLength_13 ?_
  obtain rfl := Option.some.inj h
  exact g_iret hx hb hr hlocks hM hS dX7_loopLength_14
def f_X7_misclosure (p1 : Int32) (μ : gM) : Option (Int32 × gM) :=
  Option.bind (f_X7_needLoop p1 μ) (fun q1 => gchk (gIn p1 20) (some ((gi q1 16 p1.toNatClampNeg), q1)))
set_option maxHeartbeats 4000000 in
set_option maxRecDepth 100000 in
theorem c_X7_misclosure {l : Launch} {D : va_G} {cy : Nat → ClassId} {ad : Nat → Nat} {base : gBs} {p1 : Int32} {μ : gM} {RES : Int32 × gM} (h : f_X7_misclosure p1 μ = some RES) : Met l yX7_misclosure [.code yX7_misclosure cX7_misclosure 2 (some .int)] ({ frames := 6, cells := 0, slots := 0, locals := 141 } : Room) (va_Pc [.ref (ad 0), .int p1] (gB l gFull D cy ad base μ)) (gQ (some (.int RES.1)) gFull D cy ad base RES.2) 0 0 (gA base) := by
  refine Met.ofW (cc := cX7_misclosure) (maxL := 2) (ret := (some .int)) (by decide) rfl ?_
  intro p e s m args below meth c s₁ B hml0 hv
  obtain ⟨rfl, E, hM⟩ := hv
  have F : gF p s m meth c cX7_misclosure RX7 2 (some .int) := gF_of B hml0
  obtain ⟨hx, hb, hml, hown, hlocks, hr⟩ := id F
  have hS : va_S (gA base) s.heap s.heap [] := va_S.rf
  have hl := lv_entry ([.ref (ad 0), .int p1]) (n := 2) (Nat.le_of_ble_eq_true rfl)
  rw [lg_entry_eq]
  generalize (lg_sl ([.ref (ad 0), .int p1]) ++ List.replicate (2 - (lg_sl ([.ref (ad 0), .int p1])).length) Slot.unset).toArray = ls at hl ⊢
  have hl : lv_has ls 2 [(0, .ref (ad 0)), (1, .int p1)] := hl
  unfold f_X7_misclosure at h
  refine lv_aload_n hx hb dX7_misclosure_0 rfl (lv_at hl 0 rfl) ?_
  refine lv_iload_n hx hb dX7_misclosure_1 rfl (lv_at hl 1 rfl) ?_
  obtain ⟨q1, hq1, h⟩ := gbind_e h
  refine g_callV (As := [.int p1]) (rest := []) hx hb (hml.trans hl.1.symm) hown E hM hS hy_X7_needLoop kw_1350 (c_X7_needLoop hq1) hk_0 dd_0 rfl rfl rfl (Nat.le_of_ble_eq_true rfl) ⟨Nat.le_of_ble_eq_true rfl, Nat.le_of_ble_eq_true rfl⟩ ⟨Nat.le_of_ble_eq_true rfl, Nat.le_of_ble_eq_true rfl⟩ dX7_misclosure_2 (fun H locs hM hS => ?_)
  refine lv_aload_n hx hb dX7_misclosure_5 rfl (lv_at hl 0 rfl) ?_
  refine gg_0_2 hx hb hown E hM hk_0 kw_488 dX7_misclosure_6 ?_
  refine gg_6_5 hx hb hown E hM hk_6 kw_283 dX7_misclosure_9 ?_
  refine lv_iload_n hx hb dX7_misclosure_12 rfl (lv_at hl 1 rfl) ?_
  obtain ⟨c2, h⟩ := gchk_e h
  refine g_iald hx hb E hM hk_16 dd_16 c2 dX7_misclosure_13 ?_
  obtain rfl := Option.some.inj h
  exact g_iret hx hb hr hlocks hM hS dX7_misclosure_14
def f_X7_allowed (p1 : Int32) (μ : gM) : Option (Int32 × gM) :=
  Option.bind (f_X7_needLoop p1 μ) (fun q1 => gchk (gIn p1 20) (some ((gi q1 17 p1.toNatClampNeg), q1)))
set_option maxHeartbeats 4000000 in
set_option maxRecDepth 100000 in
theorem c_X7_allowed {l : Launch} {D : va_G} {cy : Nat → ClassId} {ad : Nat → Nat} {base : gBs} {p1 : Int32} {μ : gM} {RES : Int32 × gM} (h : f_X7_allowed p1 μ = some RES) : Met l yX7_allowed [.code yX7_allowed cX7_allowed 2 (some .int)] ({ frames := 6, cells := 0, slots := 0, locals := 141 } : Room) (va_Pc [.ref (ad 0), .int p1] (gB l gFull D cy ad base μ)) (gQ (some (.int RES.1)) gFull D cy ad base RES.2) 0 0 (gA base) := by
  refine Met.ofW (cc := cX7_allowed) (maxL := 2) (ret := (some .int)) (by decide) rfl ?_
  intro p e s m args below meth c s₁ B hml0 hv
  obtain ⟨rfl, E, hM⟩ := hv
  have F : gF p s m meth c cX7_allowed RX7 2 (some .int) := gF_of B hml0
  obtain ⟨hx, hb, hml, hown, hlocks, hr⟩ := id F
  have hS : va_S (gA base) s.heap s.heap [] := va_S.rf
  have hl := lv_entry ([.ref (ad 0), .int p1]) (n := 2) (Nat.le_of_ble_eq_true rfl)
  rw [lg_entry_eq]
  generalize (lg_sl ([.ref (ad 0), .int p1]) ++ List.replicate (2 - (lg_sl ([.ref (ad 0), .int p1])).length) Slot.unset).toArray = ls at hl ⊢
  have hl : lv_has ls 2 [(0, .ref (ad 0)), (1, .int p1)] := hl
  unfold f_X7_allowed at h
  refine lv_aload_n hx hb dX7_allowed_0 rfl (lv_at hl 0 rfl) ?_
  refine lv_iload_n hx hb dX7_allowed_1 rfl (lv_at hl 1 rfl) ?_
  obtain ⟨q1, hq1, h⟩ := gbind_e h
  refine g_callV (As := [.int p1]) (rest := []) hx hb (hml.trans hl.1.symm) hown E hM hS hy_X7_needLoop kw_1350 (c_X7_needLoop hq1) hk_0 dd_0 rfl rfl rfl (Nat.le_of_ble_eq_true rfl) ⟨Nat.le_of_ble_eq_true rfl, Nat.le_of_ble_eq_true rfl⟩ ⟨Nat.le_of_ble_eq_true rfl, Nat.le_of_ble_eq_true rfl⟩ dX7_allowed_2 (fun H locs hM hS => ?_)
  refine lv_aload_n hx hb dX7_allowed_5 rfl (lv_at hl 0 rfl) ?_
  refine gg_0_2 hx hb hown E hM hk_0 kw_488 dX7_allowed_6 ?_
  refine gg_6_6 hx hb hown E hM hk_6 kw_285 dX7_allowed_9 ?_
  refine lv_iload_n hx hb dX7_allowed_12 rfl (lv_at hl 1 rfl) ?_
  obtain ⟨c2, h⟩ := gchk_e h
  refine g_iald hx hb E hM hk_17 dd_17 c2 dX7_allowed_13 ?_
  obtain rfl := Option.some.inj h
  exact g_iret hx hb hr hlocks hM hS dX7_allowed_14
def f_X7_badLoops (μ : gM) : Option (Int32 × gM) :=
  Option.bind (f_X2_find (gi μ 34 4) μ) (fun q1 => Option.bind (f_X2_badSet  q1) (fun q2 => some (q2, q1)))
set_option maxHeartbeats 4000000 in
set_option maxRecDepth 100000 in
theorem c_X7_badLoops {l : Launch} {D : va_G} {cy : Nat → ClassId} {ad : Nat → Nat} {base : gBs}  {μ : gM} {RES : Int32 × gM} (h : f_X7_badLoops  μ = some RES) : Met l yX7_badLoops [.code yX7_badLoops cX7_badLoops 1 (some .int)] ({ frames := 5, cells := 0, slots := 0, locals := 120 } : Room) (va_Pc [.ref (ad 0)] (gB l gFull D cy ad base μ)) (gQ (some (.int RES.1)) gFull D cy ad base RES.2) 0 0 (gA base) := by
  refine Met.ofW (cc := cX7_badLoops) (maxL := 1) (ret := (some .int)) (by decide) rfl ?_
  intro p e s m args below meth c s₁ B hml0 hv
  obtain ⟨rfl, E, hM⟩ := hv
  have F : gF p s m meth c cX7_badLoops RX7 1 (some .int) := gF_of B hml0
  obtain ⟨hx, hb, hml, hown, hlocks, hr⟩ := id F
  have hS : va_S (gA base) s.heap s.heap [] := va_S.rf
  have hl := lv_entry ([.ref (ad 0)]) (n := 1) (Nat.le_of_ble_eq_true rfl)
  rw [lg_entry_eq]
  generalize (lg_sl ([.ref (ad 0)]) ++ List.replicate (1 - (lg_sl ([.ref (ad 0)])).length) Slot.unset).toArray = ls at hl ⊢
  have hl : lv_has ls 1 [(0, .ref (ad 0))] := hl
  unfold f_X7_badLoops at h
  refine lv_aload_n hx hb dX7_badLoops_0 rfl (lv_at hl 0 rfl) ?_
  refine gg_0_2 hx hb hown E hM hk_0 kw_488 dX7_badLoops_1 ?_
  refine lv_aload_n hx hb dX7_badLoops_4 rfl (lv_at hl 0 rfl) ?_
  refine gg_0_5 hx hb hown E hM hk_0 kw_491 dX7_badLoops_5 ?_
  refine lv_aload_n hx hb dX7_badLoops_8 rfl (lv_at hl 0 rfl) ?_
  refine gg_0_5 hx hb hown E hM hk_0 kw_491 dX7_badLoops_9 ?_
  refine gg_34_4 hx hb hown E hM hk_34 kw_411 dX7_badLoops_12 ?_
  obtain ⟨q1, hq1, h⟩ := gbind_e h
  refine g_callV (As := [.ref (ad 34), .int (gi μ 34 4)]) (rest := []) hx hb (hml.trans hl.1.symm) hown E hM hS hy_X2_find kw_1299 (c_X2_find hq1) hk_6 dd_6 rfl rfl rfl (Nat.le_of_ble_eq_true rfl) ⟨Nat.le_of_ble_eq_true rfl, Nat.le_of_ble_eq_true rfl⟩ ⟨Nat.le_of_ble_eq_true rfl, Nat.le_of_ble_eq_true rfl⟩ dX7_badLoops_15 (fun H locs hM hS => ?_)
  refine lv_aload_n hx hb dX7_badLoops_18 rfl (lv_at hl 0 rfl) ?_
  refine gg_0_2 hx hb hown E hM hk_0 kw_488 dX7_badLoops_19 ?_
  obtain ⟨q2, hq2, h⟩ := gbind_e h
  refine g_callV (As := []) (rest := []) hx hb (hml.trans hl.1.symm) hown E hM hS hy_X2_badSet kw_1372 (c_X2_badSet hq2) hk_6 dd_6 rfl rfl rfl (Nat.le_of_ble_eq_true rfl) ⟨Nat.le_of_ble_eq_true rfl, Nat.le_of_ble_eq_true rfl⟩ ⟨Nat.le_of_ble_eq_true rfl, Nat.le_of_ble_eq_true rfl⟩ dX7_badLoops_22 (fun H locs hM hS => ?_)
  obtain rfl := Option.some.inj h
  exact g_iret hx hb hr hlocks hM hS dX7_badLoops_25
def f_X7_provisional (p1 : Int32) (μ : gM) : Option (Int64 × gM) :=
  Option.bind (f_X7_needIndex p1 (gi μ 34 1) μ) (fun q1 => Option.bind (f_X0_carry  μ) (fun q2 => gchk (gIn p1 16) (some ((gl q2 21 p1.toNatClampNeg), q2))))
set_option maxHeartbeats 4000000 in
set_option maxRecDepth 100000 in
theorem c_X7_provisional {l : Launch} {D : va_G} {cy : Nat → ClassId} {ad : Nat → Nat} {base : gBs} {p1 : Int32} {μ : gM} {RES : Int64 × gM} (h : f_X7_provisional p1 μ = some RES) : Met l yX7_provisional [.code yX7_provisional cX7_provisional 2 (some .long)] ({ frames := 5, cells := 0, slots := 0, locals := 116 } : Room) (va_Pc [.ref (ad 0), .int p1] (gB l gFull D cy ad base μ)) (gQ (some (.long RES.1)) gFull D cy ad base RES.2) 0 0 (gA base) := by
  refine Met.ofW (cc := cX7_provisional) (maxL := 2) (ret := (some .long)) (by decide) rfl ?_
  intro p e s m args below meth c s₁ B hml0 hv
  obtain ⟨rfl, E, hM⟩ := hv
  have F : gF p s m meth c cX7_provisional RX7 2 (some .long) := gF_of B hml0
  obtain ⟨hx, hb, hml, hown, hlocks, hr⟩ := id F
  have hS : va_S (gA base) s.heap s.heap [] := va_S.rf
  have hl := lv_entry ([.ref (ad 0), .int p1]) (n := 2) (Nat.le_of_ble_eq_true rfl)
  rw [lg_entry_eq]
  generalize (lg_sl ([.ref (ad 0), .int p1]) ++ List.replicate (2 - (lg_sl ([.ref (ad 0), .int p1])).length) Slot.unset).toArray = ls at hl ⊢
  have hl : lv_has ls 2 [(0, .ref (ad 0)), (1, .int p1)] := hl
  unfold f_X7_provisional at h
  refine lv_iload_n hx hb dX7_provisional_0 rfl (lv_at hl 1 rfl) ?_
  refine lv_aload_n hx hb dX7_provisional_1 rfl (lv_at hl 0 rfl) ?_
  refine gg_0_5 hx hb hown E hM hk_0 kw_491 dX7_provisional_2 ?_
  refine gg_34_1 hx hb hown E hM hk_34 kw_397 dX7_provisional_5 ?_
  obtain ⟨q1, hq1, h⟩ := gbind_e h
  refine g_callS (As := [.int p1, .int (gi μ 34 1)]) (rest := []) hx hb (hml.trans hl.1.symm) hown E hM hS hy_X7_needIndex kw_1074 (c_X7_needIndex hq1) rfl rfl (Nat.le_of_ble_eq_true rfl) ⟨Nat.le_of_ble_eq_true rfl, Nat.le_of_ble_eq_true rfl⟩ ⟨Nat.le_of_ble_eq_true rfl, Nat.le_of_ble_eq_true rfl⟩ dX7_provisional_8 (fun H locs hM hS => ?_)
  refine lv_aload_n hx hb dX7_provisional_11 rfl (lv_at hl 0 rfl) ?_
  refine gg_0_3 hx hb hown E hM hk_0 kw_489 dX7_provisional_12 ?_
  refine lv_aload_n hx hb dX7_provisional_15 rfl (lv_at hl 0 rfl) ?_
  refine gg_0_5 hx hb hown E hM hk_0 kw_491 dX7_provisional_16 ?_
  obtain ⟨q2, hq2, h⟩ := gbind_e h
  refine g_callV (As := [.ref (ad 34)]) (rest := []) hx hb (hml.trans hl.1.symm) hown E hM hS hy_X0_carry kw_1467 (c_X0_carry hq2) hk_20 dd_20 rfl rfl rfl (Nat.le_of_ble_eq_true rfl) ⟨Nat.le_of_ble_eq_true rfl, Nat.le_of_ble_eq_true rfl⟩ ⟨Nat.le_of_ble_eq_true rfl, Nat.le_of_ble_eq_true rfl⟩ dX7_provisional_19 (fun H locs hM hS => ?_)
  refine lv_aload_n hx hb dX7_provisional_22 rfl (lv_at hl 0 rfl) ?_
  refine gg_0_3 hx hb hown E hM hk_0 kw_489 dX7_provisional_23 ?_
  refine gg_20_0 hx hb hown E hM hk_20 kw_318 dX7_provisional_26 ?_
  refine lv_iload_n hx hb dX7_provisional_29 rfl (lv_at hl 1 rfl) ?_
  obtain ⟨c3, h⟩ := gchk_e h
  refine g_lald hx hb E hM hk_21 dd_21 c3 dX7_provisional_30 ?_
  obtain rfl := Option.some.inj h
  exact g_lret hx hb hr hlocks hM hS dX7_provisional_31
def f_X7_isAdjusted (μ : gM) : Option (Bool) :=
  Option.bind (i2b (gi μ 20 2)) (fun b1 => some b1)
set_option maxHeartbeats 4000000 in
set_option maxRecDepth 100000 in
theorem c_X7_isAdjusted {l : Launch} {D : va_G} {cy : Nat → ClassId} {ad : Nat → Nat} {base : gBs}  {μ : gM} {RES : Bool} (h : f_X7_isAdjusted  μ = some RES) : Met l yX7_isAdjusted [.code yX7_isAdjusted cX7_isAdjusted 1 (some .boolean)] ({ frames := 0, cells := 0, slots := 0, locals := 0 } : Room) (va_Pc [.ref (ad 0)] (gB l gFull D cy ad base μ)) (gQ (some (.int (b2i RES))) gFull D cy ad base μ) 0 0 (gA base) := by
  refine Met.ofW (cc := cX7_isAdjusted) (maxL := 1) (ret := (some .boolean)) (by decide) rfl ?_
  intro p e s m args below meth c s₁ B hml0 hv
  obtain ⟨rfl, E, hM⟩ := hv
  have F : gF p s m meth c cX7_isAdjusted RX7 1 (some .boolean) := gF_of B hml0
  obtain ⟨hx, hb, hml, hown, hlocks, hr⟩ := id F
  have hS : va_S (gA base) s.heap s.heap [] := va_S.rf
  have hl := lv_entry ([.ref (ad 0)]) (n := 1) (Nat.le_of_ble_eq_true rfl)
  rw [lg_entry_eq]
  generalize (lg_sl ([.ref (ad 0)]) ++ List.replicate (1 - (lg_sl ([.ref (ad 0)])).length) Slot.unset).toArray = ls at hl ⊢
  have hl : lv_has ls 1 [(0, .ref (ad 0))] := hl
  unfold f_X7_isAdjusted at h
  refine lv_aload_n hx hb dX7_isAdjusted_0 rfl (lv_at hl 0 rfl) ?_
  refine gg_0_3 hx hb hown E hM hk_0 kw_489 dX7_isAdjusted_1 ?_
  refine gg_20_2 hx hb hown E hM hk_20 kw_323 dX7_isAdjusted_4 ?_
  obtain ⟨b1, hi, h⟩ := gbind_e h
  rw [i2b_e hi]
  obtain rfl := Option.some.inj h
  exact g_zret hx hb hr hlocks (b2i_nar _) hM hS dX7_isAdjusted_7
def f_X7_heightOf (p1 : Int32) (μ : gM) : Option (Int64) :=
  Option.bind (f_X7_needIndex p1 (gi μ 34 1) μ) (fun q1 => Option.bind (f_X0_settledHeight p1 μ) (fun q2 => some q2))
set_option maxHeartbeats 4000000 in
set_option maxRecDepth 100000 in
theorem c_X7_heightOf {l : Launch} {D : va_G} {cy : Nat → ClassId} {ad : Nat → Nat} {base : gBs} {p1 : Int32} {μ : gM} {RES : Int64} (h : f_X7_heightOf p1 μ = some RES) : Met l yX7_heightOf [.code yX7_heightOf cX7_heightOf 2 (some .long)] ({ frames := 2, cells := 0, slots := 0, locals := 42 } : Room) (va_Pc [.ref (ad 0), .int p1] (gB l gFull D cy ad base μ)) (gQ (some (.long RES)) gFull D cy ad base μ) 0 0 (gA base) := by
  refine Met.ofW (cc := cX7_heightOf) (maxL := 2) (ret := (some .long)) (by decide) rfl ?_
  intro p e s m args below meth c s₁ B hml0 hv
  obtain ⟨rfl, E, hM⟩ := hv
  have F : gF p s m meth c cX7_heightOf RX7 2 (some .long) := gF_of B hml0
  obtain ⟨hx, hb, hml, hown, hlocks, hr⟩ := id F
  have hS : va_S (gA base) s.heap s.heap [] := va_S.rf
  have hl := lv_entry ([.ref (ad 0), .int p1]) (n := 2) (Nat.le_of_ble_eq_true rfl)
  rw [lg_entry_eq]
  generalize (lg_sl ([.ref (ad 0), .int p1]) ++ List.replicate (2 - (lg_sl ([.ref (ad 0), .int p1])).length) Slot.unset).toArray = ls at hl ⊢
  have hl : lv_has ls 2 [(0, .ref (ad 0)), (1, .int p1)] := hl
  unfold f_X7_heightOf at h
  refine lv_iload_n hx hb dX7_heightOf_0 rfl (lv_at hl 1 rfl) ?_
  refine lv_aload_n hx hb dX7_heightOf_1 rfl (lv_at hl 0 rfl) ?_
  refine gg_0_5 hx hb hown E hM hk_0 kw_491 dX7_heightOf_2 ?_
  refine gg_34_1 hx hb hown E hM hk_34 kw_397 dX7_heightOf_5 ?_
  obtain ⟨q1, hq1, h⟩ := gbind_e h
  refine g_callS (As := [.int p1, .int (gi μ 34 1)]) (rest := []) hx hb (hml.trans hl.1.symm) hown E hM hS hy_X7_needIndex kw_1074 (c_X7_needIndex hq1) rfl rfl (Nat.le_of_ble_eq_true rfl) ⟨Nat.le_of_ble_eq_true rfl, Nat.le_of_ble_eq_true rfl⟩ ⟨Nat.le_of_ble_eq_true rfl, Nat.le_of_ble_eq_true rfl⟩ dX7_heightOf_8 (fun H locs hM hS => ?_)
  refine lv_aload_n hx hb dX7_heightOf_11 rfl (lv_at hl 0 rfl) ?_
  refine gg_0_3 hx hb hown E hM hk_0 kw_489 dX7_heightOf_12 ?_
  refine lv_iload_n hx hb dX7_heightOf_15 rfl (lv_at hl 1 rfl) ?_
  obtain ⟨q2, hq2, h⟩ := gbind_e h
  refine g_callV (As := [.int p1]) (rest := []) hx hb (hml.trans hl.1.symm) hown E hM hS hy_X0_settledHeight kw_1472 (c_X0_settledHeight hq2) hk_20 dd_20 rfl rfl rfl (Nat.le_of_ble_eq_true rfl) ⟨Nat.le_of_ble_eq_true rfl, Nat.le_of_ble_eq_true rfl⟩ ⟨Nat.le_of_ble_eq_true rfl, Nat.le_of_ble_eq_true rfl⟩ dX7_heightOf_16 (fun H locs hM hS => ?_)
  obtain rfl := Option.some.inj h
  exact g_lret hx hb hr hlocks hM hS dX7_heightOf_19
def f_X7_residual (p1 : Int32) (μ : gM) : Option (Int64) :=
  Option.bind (f_X7_needIndex p1 (gi μ 34 2) μ) (fun q1 => Option.bind (f_X0_misfit p1 μ) (fun q2 => some q2))
set_option maxHeartbeats 4000000 in
set_option maxRecDepth 100000 in
theorem c_X7_residual {l : Launch} {D : va_G} {cy : Nat → ClassId} {ad : Nat → Nat} {base : gBs} {p1 : Int32} {μ : gM} {RES : Int64} (h : f_X7_residual p1 μ = some RES) : Met l yX7_residual [.code yX7_residual cX7_residual 2 (some .long)] ({ frames := 4, cells := 0, slots := 0, locals := 94 } : Room) (va_Pc [.ref (ad 0), .int p1] (gB l gFull D cy ad base μ)) (gQ (some (.long RES)) gFull D cy ad base μ) 0 0 (gA base) := by
  refine Met.ofW (cc := cX7_residual) (maxL := 2) (ret := (some .long)) (by decide) rfl ?_
  intro p e s m args below meth c s₁ B hml0 hv
  obtain ⟨rfl, E, hM⟩ := hv
  have F : gF p s m meth c cX7_residual RX7 2 (some .long) := gF_of B hml0
  obtain ⟨hx, hb, hml, hown, hlocks, hr⟩ := id F
  have hS : va_S (gA base) s.heap s.heap [] := va_S.rf
  have hl := lv_entry ([.ref (ad 0), .int p1]) (n := 2) (Nat.le_of_ble_eq_true rfl)
  rw [lg_entry_eq]
  generalize (lg_sl ([.ref (ad 0), .int p1]) ++ List.replicate (2 - (lg_sl ([.ref (ad 0), .int p1])).length) Slot.unset).toArray = ls at hl ⊢
  have hl : lv_has ls 2 [(0, .ref (ad 0)), (1, .int p1)] := hl
  unfold f_X7_residual at h
  refine lv_iload_n hx hb dX7_residual_0 rfl (lv_at hl 1 rfl) ?_
  refine lv_aload_n hx hb dX7_residual_1 rfl (lv_at hl 0 rfl) ?_
  refine gg_0_5 hx hb hown E hM hk_0 kw_491 dX7_residual_2 ?_
  refine gg_34_2 hx hb hown E hM hk_34 kw_404 dX7_residual_5 ?_
  obtain ⟨q1, hq1, h⟩ := gbind_e h
  refine g_callS (As := [.int p1, .int (gi μ 34 2)]) (rest := []) hx hb (hml.trans hl.1.symm) hown E hM hS hy_X7_needIndex kw_1074 (c_X7_needIndex hq1) rfl rfl (Nat.le_of_ble_eq_true rfl) ⟨Nat.le_of_ble_eq_true rfl, Nat.le_of_ble_eq_true rfl⟩ ⟨Nat.le_of_ble_eq_true rfl, Nat.le_of_ble_eq_true rfl⟩ dX7_residual_8 (fun H locs hM hS => ?_)
  refine lv_aload_n hx hb dX7_residual_11 rfl (lv_at hl 0 rfl) ?_
  refine gg_0_3 hx hb hown E hM hk_0 kw_489 dX7_residual_12 ?_
  refine lv_aload_n hx hb dX7_residual_15 rfl (lv_at hl 0 rfl) ?_
  refine gg_0_5 hx hb hown E hM hk_0 kw_491 dX7_residual_16 ?_
  refine lv_iload_n hx hb dX7_residual_19 rfl (lv_at hl 1 rfl) ?_
  obtain ⟨q2, hq2, h⟩ := gbind_e h
  refine g_callV (As := [.ref (ad 34), .int p1]) (rest := []) hx hb (hml.trans hl.1.symm) hown E hM hS hy_X0_misfit kw_1484 (c_X0_misfit hq2) hk_20 dd_20 rfl rfl rfl (Nat.le_of_ble_eq_true rfl) ⟨Nat.le_of_ble_eq_true rfl, Nat.le_of_ble_eq_true rfl⟩ ⟨Nat.le_of_ble_eq_true rfl, Nat.le_of_ble_eq_true rfl⟩ dX7_residual_20 (fun H locs hM hS => ?_)
  obtain rfl := Option.some.inj h
  exact g_lret hx hb hr hlocks hM hS dX7_residual_23
def f_X7_keepBefore (p1 : Int32) (p2 : Int32) (p3 : Int32) (μ : gM) : Option (gM) :=
  Option.bind (f_X1_keep p1 p2 p3 μ) (fun q1 => some (si q1 20 2 (0 : Int32)))
set_option maxHeartbeats 4000000 in
set_option maxRecDepth 100000 in
theorem c_X7_keepBefore {l : Launch} {D : va_G} {cy : Nat → ClassId} {ad : Nat → Nat} {base : gBs} {p1 : Int32} {p2 : Int32} {p3 : Int32} {μ : gM} {RES : gM} (h : f_X7_keepBefore p1 p2 p3 μ = some RES) : Met l yX7_keepBefore [.code yX7_keepBefore cX7_keepBefore 4 none] ({ frames := 2, cells := 0, slots := 0, locals := 89 } : Room) (va_Pc [.ref (ad 0), .int p1, .int p2, .int p3] (gB l gFull D cy ad base μ)) (gQ none gFull D cy ad base RES) 0 0 (gA base) := by
  refine Met.ofW (cc := cX7_keepBefore) (maxL := 4) (ret := none) (by decide) rfl ?_
  intro p e s m args below meth c s₁ B hml0 hv
  obtain ⟨rfl, E, hM⟩ := hv
  have F : gF p s m meth c cX7_keepBefore RX7 4 none := gF_of B hml0
  obtain ⟨hx, hb, hml, hown, hlocks, hr⟩ := id F
  have hS : va_S (gA base) s.heap s.heap [] := va_S.rf
  have hl := lv_entry ([.ref (ad 0), .int p1, .int p2, .int p3]) (n := 4) (Nat.le_of_ble_eq_true rfl)
  rw [lg_entry_eq]
  generalize (lg_sl ([.ref (ad 0), .int p1, .int p2, .int p3]) ++ List.replicate (4 - (lg_sl ([.ref (ad 0), .int p1, .int p2, .int p3])).length) Slot.unset).toArray = ls at hl ⊢
  have hl : lv_has ls 4 [(0, .ref (ad 0)), (1, .int p1), (2, .int p2), (3, .int p3)] := hl
  unfold f_X7_keepBefore at h
  refine lv_aload_n hx hb dX7_keepBefore_0 rfl (lv_at hl 0 rfl) ?_
  refine gg_0_4 hx hb hown E hM hk_0 kw_490 dX7_keepBefore_1 ?_
  refine lv_iload_n hx hb dX7_keepBefore_4 rfl (lv_at hl 1 rfl) ?_
  refine lv_iload_n hx hb dX7_keepBefore_5 rfl (lv_at hl 2 rfl) ?_
  refine lv_iload_n hx hb dX7_keepBefore_6 rfl (lv_at hl 3 rfl) ?_
  refine lv_aload_n hx hb dX7_keepBefore_7 rfl (lv_at hl 0 rfl) ?_
  refine gg_0_3 hx hb hown E hM hk_0 kw_489 dX7_keepBefore_8 ?_
  obtain ⟨q1, hq1, h⟩ := gbind_e h
  refine g_callV (As := [.int p1, .int p2, .int p3, .ref (ad 20)]) (rest := []) hx hb (hml.trans hl.1.symm) hown E hM hS hy_X1_keep kw_91 (c_X1_keep hq1) hk_28 dd_28 rfl rfl rfl (Nat.le_of_ble_eq_true rfl) ⟨Nat.le_of_ble_eq_true rfl, Nat.le_of_ble_eq_true rfl⟩ ⟨Nat.le_of_ble_eq_true rfl, Nat.le_of_ble_eq_true rfl⟩ dX7_keepBefore_11 (fun H locs hM hS => ?_)
  refine lv_aload_n hx hb dX7_keepBefore_14 rfl (lv_at hl 0 rfl) ?_
  refine gg_0_3 hx hb hown E hM hk_0 kw_489 dX7_keepBefore_15 ?_
  refine lv_iconst (v := (0 : Int32)) hx hb dX7_keepBefore_18 (by decide) ?_
  refine gp_20_2 hx hb hown E hM hS hk_20 (Or.inl rfl) kw_323 dX7_keepBefore_19 (fun H locs hM hS => ?_)
  obtain rfl := Option.some.inj h
  exact g_vret hx hb hr hlocks hM hS dX7_keepBefore_22
def f_X7_hold (p1 : Int32) (p2 : Int32) (μ : gM) : Option (Int32 × gM) :=
  Option.bind (f_X7_isIndex p1 (gi μ 34 1) μ) (fun q1 => if ((b2i q1) = 0) then some ((-1 : Int32), μ) else if (p2 < 0) then some ((-2 : Int32), μ) else if (p2 ≤ (9999999 : Int32)) then gchk (gIn p1 16) (Option.bind (f_X7_keepBefore (0 : Int32) p1 (gi μ 39 p1.toNatClampNeg) μ) (fun q6 => gchk (gIn p1 16) (Option.bind (f_X3_countHeld  (si q6 39 p1.toNatClampNeg p2)) (fun q8 => some (q8, (si q6 39 p1.toNatClampNeg p2)))))) else some ((-2 : Int32), μ))
set_option maxHeartbeats 4000000 in
set_option maxRecDepth 100000 in
theorem c_X7_hold {l : Launch} {D : va_G} {cy : Nat → ClassId} {ad : Nat → Nat} {base : gBs} {p1 : Int32} {p2 : Int32} {μ : gM} {RES : Int32 × gM} (h : f_X7_hold p1 p2 μ = some RES) : Met l yX7_hold [.code yX7_hold cX7_hold 3 (some .int)] ({ frames := 3, cells := 0, slots := 0, locals := 112 } : Room) (va_Pc [.ref (ad 0), .int p1, .int p2] (gB l gFull D cy ad base μ)) (gQ (some (.int RES.1)) gFull D cy ad base RES.2) 0 0 (gA base) := by
  refine Met.ofW (cc := cX7_hold) (maxL := 3) (ret := (some .int)) (by decide) rfl ?_
  intro p e s m args below meth c s₁ B hml0 hv
  obtain ⟨rfl, E, hM⟩ := hv
  have F : gF p s m meth c cX7_hold RX7 3 (some .int) := gF_of B hml0
  obtain ⟨hx, hb, hml, hown, hlocks, hr⟩ := id F
  have hS : va_S (gA base) s.heap s.heap [] := va_S.rf
  have hl := lv_entry ([.ref (ad 0), .int p1, .int p2]) (n := 3) (Nat.le_of_ble_eq_true rfl)
  rw [lg_entry_eq]
  generalize (lg_sl ([.ref (ad 0), .int p1, .int p2]) ++ List.replicate (3 - (lg_sl ([.ref (ad 0), .int p1, .int p2])).length) Slot.unset).toArray = ls at hl ⊢
  have hl : lv_has ls 3 [(0, .ref (ad 0)), (1, .int p1), (2, .int p2)] := hl
  unfold f_X7_hold at h
  refine lv_iload_n hx hb dX7_hold_0 rfl (lv_at hl 1 rfl) ?_
  refine lv_aload_n hx hb dX7_hold_1 rfl (lv_at hl 0 rfl) ?_
  refine gg_0_5 hx hb hown E hM hk_0 kw_491 dX7_hold_2 ?_
  refine gg_34_1 hx hb hown E hM hk_34 kw_397 dX7_hold_5 ?_
  obtain ⟨q1, hq1, h⟩ := gbind_e h
  refine g_callS (As := [.int p1, .int (gi μ 34 1)]) (rest := []) hx hb (hml.trans hl.1.symm) hown E hM hS hy_X7_isIndex kw_1077 (c_X7_isIndex hq1) rfl rfl (Nat.le_of_ble_eq_true rfl) ⟨Nat.le_of_ble_eq_true rfl, Nat.le_of_ble_eq_true rfl⟩ ⟨Nat.le_of_ble_eq_true rfl, Nat.le_of_ble_eq_true rfl⟩ dX7_hold_8 (fun H locs hM hS => ?_)
  refine lv_if_ne (tgt := 16) hx hb dX7_hold_11 (by decide) (fun c2 => ?_) (fun c2 => ?_)
  · replace h := gif_f c2 h
    refine lv_iload_n hx hb dX7_hold_16 rfl (lv_at hl 2 rfl) ?_
    refine lv_if_lt (tgt := 27) hx hb dX7_hold_17 (by decide) (fun c3 => ?_) (fun c3 => ?_)
    · replace h := gif_t c3 h
      refine lv_bipush (v := (-2 : Int32)) hx hb dX7_hold_27 (by decide) ?_
      obtain rfl := Option.some.inj h
      exact g_iret hx hb hr hlocks hM hS dX7_hold_29
    · replace h := gif_f c3 h
      refine lv_iload_n hx hb dX7_hold_20 rfl (lv_at hl 2 rfl) ?_
      refine lv_ldcw hx hb hown (v := (9999999 : Int32)) (E.kw kw_1504) dX7_hold_21 ?_
      refine lv_icmp_le (tgt := 30) hx hb dX7_hold_24 (by decide) (fun c4 => ?_) (fun c4 => ?_)
      · replace h := gif_t c4 h
        refine lv_aload_n hx hb dX7_hold_30 rfl (lv_at hl 0 rfl) ?_
        refine lv_iconst (v := (0 : Int32)) hx hb dX7_hold_31 (by decide) ?_
        refine lv_iload_n hx hb dX7_hold_32 rfl (lv_at hl 1 rfl) ?_
        refine lv_aload_n hx hb dX7_hold_33 rfl (lv_at hl 0 rfl) ?_
        refine gg_0_5 hx hb hown E hM hk_0 kw_491 dX7_hold_34 ?_
        refine gg_34_9 hx hb hown E hM hk_34 kw_425 dX7_hold_37 ?_
        refine lv_iload_n hx hb dX7_hold_40 rfl (lv_at hl 1 rfl) ?_
        obtain ⟨c5, h⟩ := gchk_e h
        refine g_iald hx hb E hM hk_39 dd_39 c5 dX7_hold_41 ?_
        obtain ⟨q6, hq6, h⟩ := gbind_e h
        refine g_callV (As := [.int (0 : Int32), .int p1, .int (gi μ 39 p1.toNatClampNeg)]) (rest := []) hx hb (hml.trans hl.1.symm) hown E hM hS hy_X7_keepBefore kw_86 (c_X7_keepBefore hq6) hk_0 dd_0 rfl rfl rfl (Nat.le_of_ble_eq_true rfl) ⟨Nat.le_of_ble_eq_true rfl, Nat.le_of_ble_eq_true rfl⟩ ⟨Nat.le_of_ble_eq_true rfl, Nat.le_of_ble_eq_true rfl⟩ dX7_hold_42 (fun H locs hM hS => ?_)
        refine lv_aload_n hx hb dX7_hold_45 rfl (lv_at hl 0 rfl) ?_
        refine gg_0_5 hx hb hown E hM hk_0 kw_491 dX7_hold_46 ?_
        refine gg_34_9 hx hb hown E hM hk_34 kw_425 dX7_hold_49 ?_
        refine lv_iload_n hx hb dX7_hold_52 rfl (lv_at hl 1 rfl) ?_
        refine lv_iload_n hx hb dX7_hold_53 rfl (lv_at hl 2 rfl) ?_
        obtain ⟨c7, h⟩ := gchk_e h
        refine g_iast hx hb E hM hS hk_39 dd_39 c7 dX7_hold_54 (fun H locs hM hS => ?_)
        refine lv_aload_n hx hb dX7_hold_55 rfl (lv_at hl 0 rfl) ?_
        refine gg_0_5 hx hb hown E hM hk_0 kw_491 dX7_hold_56 ?_
        obtain ⟨q8, hq8, h⟩ := gbind_e h
        refine g_callV (As := []) (rest := []) hx hb (hml.trans hl.1.symm) hown E hM hS hy_X3_countHeld kw_1505 (c_X3_countHeld hq8) hk_34 dd_34 rfl rfl rfl (Nat.le_of_ble_eq_true rfl) ⟨Nat.le_of_ble_eq_true rfl, Nat.le_of_ble_eq_true rfl⟩ ⟨Nat.le_of_ble_eq_true rfl, Nat.le_of_ble_eq_true rfl⟩ dX7_hold_59 (fun H locs hM hS => ?_)
        obtain rfl := Option.some.inj h
        exact g_iret hx hb hr hlocks hM hS dX7_hold_62
      · replace h := gif_f c4 h
        refine lv_bipush (v := (-2 : Int32)) hx hb dX7_hold_27 (by decide) ?_
        obtain rfl := Option.some.inj h
        exact g_iret hx hb hr hlocks hM hS dX7_hold_29
  · replace h := gif_t c2 h
    refine lv_iconst (v := (-1 : Int32)) hx hb dX7_hold_14 (by decide) ?_
    obtain rfl := Option.some.inj h
    exact g_iret hx hb hr hlocks hM hS dX7_hold_15
def f_X7_release (p1 : Int32) (μ : gM) : Option (Int32 × gM) :=
  Option.bind (f_X7_isIndex p1 (gi μ 34 1) μ) (fun q1 => if ((b2i q1) = 0) then some ((-1 : Int32), μ) else gchk (gIn p1 16) (if ((gi μ 39 p1.toNatClampNeg) = (-1 : Int32)) then some ((-1 : Int32), μ) else gchk (gIn p1 16) (Option.bind (f_X7_keepBefore (0 : Int32) p1 (gi μ 39 p1.toNatClampNeg) μ) (fun q6 => gchk (gIn p1 16) (Option.bind (f_X3_countHeld  (si q6 39 p1.toNatClampNeg (-1 : Int32))) (fun q8 => some (q8, (si q6 39 p1.toNatClampNeg (-1 : Int32)))))))))
set_option maxHeartbeats 4000000 in
set_option maxRecDepth 100000 in
theorem c_X7_release {l : Launch} {D : va_G} {cy : Nat → ClassId} {ad : Nat → Nat} {base : gBs} {p1 : Int32} {μ : gM} {RES : Int32 × gM} (h : f_X7_release p1 μ = some RES) : Met l yX7_release [.code yX7_release cX7_release 2 (some .int)] ({ frames := 3, cells := 0, slots := 0, locals := 112 } : Room) (va_Pc [.ref (ad 0), .int p1] (gB l gFull D cy ad base μ)) (gQ (some (.int RES.1)) gFull D cy ad base RES.2) 0 0 (gA base) := by
  refine Met.ofW (cc := cX7_release) (maxL := 2) (ret := (some .int)) (by decide) rfl ?_
  intro p e s m args below meth c s₁ B hml0 hv
  obtain ⟨rfl, E, hM⟩ := hv
  have F : gF p s m meth c cX7_release RX7 2 (some .int) := gF_of B hml0
  obtain ⟨hx, hb, hml, hown, hlocks, hr⟩ := id F
  have hS : va_S (gA base) s.heap s.heap [] := va_S.rf
  have hl := lv_entry ([.ref (ad 0), .int p1]) (n := 2) (Nat.le_of_ble_eq_true rfl)
  rw [lg_entry_eq]
  generalize (lg_sl ([.ref (ad 0), .int p1]) ++ List.replicate (2 - (lg_sl ([.ref (ad 0), .int p1])).length) Slot.unset).toArray = ls at hl ⊢
  have hl : lv_has ls 2 [(0, .ref (ad 0)), (1, .int p1)] := hl
  unfold f_X7_release at h
  refine lv_iload_n hx hb dX7_release_0 rfl (lv_at hl 1 rfl) ?_
  refine lv_aload_n hx hb dX7_release_1 rfl (lv_at hl 0 rfl) ?_
  refine gg_0_5 hx hb hown E hM hk_0 kw_491 dX7_release_2 ?_
  refine gg_34_1 hx hb hown E hM hk_34 kw_397 dX7_release_5 ?_
  obtain ⟨q1, hq1, h⟩ := gbind_e h
  refine g_callS (As := [.int p1, .int (gi μ 34 1)]) (rest := []) hx hb (hml.trans hl.1.symm) hown E hM hS hy_X7_isIndex kw_1077 (c_X7_isIndex hq1) rfl rfl (Nat.le_of_ble_eq_true rfl) ⟨Nat.le_of_ble_eq_true rfl, Nat.le_of_ble_eq_true rfl⟩ ⟨Nat.le_of_ble_eq_true rfl, Nat.le_of_ble_eq_true rfl⟩ dX7_release_8 (fun H locs hM hS => ?_)
  refine lv_if_eq (tgt := 27) hx hb dX7_release_11 (by decide) (fun c2 => ?_) (fun c2 => ?_)
  · replace h := gif_t c2 h
    refine lv_iconst (v := (-1 : Int32)) hx hb dX7_release_27 (by decide) ?_
    obtain rfl := Option.some.inj h
    exact g_iret hx hb hr hlocks hM hS dX7_release_28
  · replace h := gif_f c2 h
    refine lv_aload_n hx hb dX7_release_14 rfl (lv_at hl 0 rfl) ?_
    refine gg_0_5 hx hb hown E hM hk_0 kw_491 dX7_release_15 ?_
    refine gg_34_9 hx hb hown E hM hk_34 kw_425 dX7_release_18 ?_
    refine lv_iload_n hx hb dX7_release_21 rfl (lv_at hl 1 rfl) ?_
    obtain ⟨c3, h⟩ := gchk_e h
    refine g_iald hx hb E hM hk_39 dd_39 c3 dX7_release_22 ?_
    refine lv_iconst (v := (-1 : Int32)) hx hb dX7_release_23 (by decide) ?_
    refine lv_icmp_ne (tgt := 29) hx hb dX7_release_24 (by decide) (fun c4 => ?_) (fun c4 => ?_)
    · replace h := gif_f c4 h
      refine lv_aload_n hx hb dX7_release_29 rfl (lv_at hl 0 rfl) ?_
      refine lv_iconst (v := (0 : Int32)) hx hb dX7_release_30 (by decide) ?_
      refine lv_iload_n hx hb dX7_release_31 rfl (lv_at hl 1 rfl) ?_
      refine lv_aload_n hx hb dX7_release_32 rfl (lv_at hl 0 rfl) ?_
      refine gg_0_5 hx hb hown E hM hk_0 kw_491 dX7_release_33 ?_
      refine gg_34_9 hx hb hown E hM hk_34 kw_425 dX7_release_36 ?_
      refine lv_iload_n hx hb dX7_release_39 rfl (lv_at hl 1 rfl) ?_
      obtain ⟨c5, h⟩ := gchk_e h
      refine g_iald hx hb E hM hk_39 dd_39 c5 dX7_release_40 ?_
      obtain ⟨q6, hq6, h⟩ := gbind_e h
      refine g_callV (As := [.int (0 : Int32), .int p1, .int (gi μ 39 p1.toNatClampNeg)]) (rest := []) hx hb (hml.trans hl.1.symm) hown E hM hS hy_X7_keepBefore kw_86 (c_X7_keepBefore hq6) hk_0 dd_0 rfl rfl rfl (Nat.le_of_ble_eq_true rfl) ⟨Nat.le_of_ble_eq_true rfl, Nat.le_of_ble_eq_true rfl⟩ ⟨Nat.le_of_ble_eq_true rfl, Nat.le_of_ble_eq_true rfl⟩ dX7_release_41 (fun H locs hM hS => ?_)
      refine lv_aload_n hx hb dX7_release_44 rfl (lv_at hl 0 rfl) ?_
      refine gg_0_5 hx hb hown E hM hk_0 kw_491 dX7_release_45 ?_
      refine gg_34_9 hx hb hown E hM hk_34 kw_425 dX7_release_48 ?_
      refine lv_iload_n hx hb dX7_release_51 rfl (lv_at hl 1 rfl) ?_
      refine lv_iconst (v := (-1 : Int32)) hx hb dX7_release_52 (by decide) ?_
      obtain ⟨c7, h⟩ := gchk_e h
      refine g_iast hx hb E hM hS hk_39 dd_39 c7 dX7_release_53 (fun H locs hM hS => ?_)
      refine lv_aload_n hx hb dX7_release_54 rfl (lv_at hl 0 rfl) ?_
      refine gg_0_5 hx hb hown E hM hk_0 kw_491 dX7_release_55 ?_
      obtain ⟨q8, hq8, h⟩ := gbind_e h
      refine g_callV (As := []) (rest := []) hx hb (hml.trans hl.1.symm) hown E hM hS hy_X3_countHeld kw_1505 (c_X3_countHeld hq8) hk_34 dd_34 rfl rfl rfl (Nat.le_of_ble_eq_true rfl) ⟨Nat.le_of_ble_eq_true rfl, Nat.le_of_ble_eq_true rfl⟩ ⟨Nat.le_of_ble_eq_true rfl, Nat.le_of_ble_eq_true rfl⟩ dX7_release_58 (fun H locs hM hS => ?_)
      obtain rfl := Option.some.inj h
      exact g_iret hx hb hr hlocks hM hS dX7_release_61
    · replace h := gif_t c4 h
      refine lv_iconst (v := (-1 : Int32)) hx hb dX7_release_27 (by decide) ?_
      obtain rfl := Option.some.inj h
      exact g_iret hx hb hr hlocks hM hS dX7_release_28
def f_X7_fits (p1 : Int32) (p2 : Int32) (μ : gM) : Option (Bool) :=
  gchk (gIn p1 4) (if (p2 < (sc 0 p1.toNatClampNeg)) then some false else gchk (gIn p1 4) (if ((sc 1 p1.toNatClampNeg) < p2) then some false else some true))
set_option maxHeartbeats 4000000 in
set_option maxRecDepth 100000 in
theorem c_X7_fits {l : Launch} {D : va_G} {cy : Nat → ClassId} {ad : Nat → Nat} {base : gBs} {p1 : Int32} {p2 : Int32} {μ : gM} {RES : Bool} (h : f_X7_fits p1 p2 μ = some RES) : Met l yX7_fits [.code yX7_fits cX7_fits 2 (some .boolean)] ({ frames := 0, cells := 0, slots := 0, locals := 0 } : Room) (va_Pc [.int p1, .int p2] (gB l gFull D cy ad base μ)) (gQ (some (.int (b2i RES))) gFull D cy ad base μ) 0 0 (gA base) := by
  refine Met.ofW (cc := cX7_fits) (maxL := 2) (ret := (some .boolean)) (by decide) rfl ?_
  intro p e s m args below meth c s₁ B hml0 hv
  obtain ⟨rfl, E, hM⟩ := hv
  have F : gF p s m meth c cX7_fits RX7 2 (some .boolean) := gF_of B hml0
  obtain ⟨hx, hb, hml, hown, hlocks, hr⟩ := id F
  have hS : va_S (gA base) s.heap s.heap [] := va_S.rf
  have hl := lv_entry ([.int p1, .int p2]) (n := 2) (Nat.le_of_ble_eq_true rfl)
  rw [lg_entry_eq]
  generalize (lg_sl ([.int p1, .int p2]) ++ List.replicate (2 - (lg_sl ([.int p1, .int p2])).length) Slot.unset).toArray = ls at hl ⊢
  have hl : lv_has ls 2 [(0, .int p1), (1, .int p2)] := hl
  unfold f_X7_fits at h
  refine lv_iload_n hx hb dX7_fits_0 rfl (lv_at hl 1 rfl) ?_
  refine g_gets hx hb hown E hS 0 (by decide) (gSt_0) kw_1524 dX7_fits_1 ?_
  refine lv_iload_n hx hb dX7_fits_4 rfl (lv_at hl 0 rfl) ?_
  obtain ⟨c1, h⟩ := gchk_e h
  refine g_sti hx hb E hS 0 (n := 4) (by decide) rfl rfl c1 dX7_fits_5 ?_
  refine lv_icmp_lt (tgt := 22) hx hb dX7_fits_6 (by decide) (fun c2 => ?_) (fun c2 => ?_)
  · replace h := gif_t c2 h
    refine lv_iconst (v := (0 : Int32)) hx hb dX7_fits_22 (by decide) ?_
    obtain rfl := Option.some.inj h
    exact g_zret (v := b2i false) hx hb hr hlocks (b2i_nar false) hM hS dX7_fits_23
  · replace h := gif_f c2 h
    refine lv_iload_n hx hb dX7_fits_9 rfl (lv_at hl 1 rfl) ?_
    refine g_gets hx hb hown E hS 1 (by decide) (gSt_1) kw_1525 dX7_fits_10 ?_
    refine lv_iload_n hx hb dX7_fits_13 rfl (lv_at hl 0 rfl) ?_
    obtain ⟨c3, h⟩ := gchk_e h
    refine g_sti hx hb E hS 1 (n := 4) (by decide) rfl rfl c3 dX7_fits_14 ?_
    refine lv_icmp_gt (tgt := 22) hx hb dX7_fits_15 (by decide) (fun c4 => ?_) (fun c4 => ?_)
    · replace h := gif_t c4 h
      refine lv_iconst (v := (0 : Int32)) hx hb dX7_fits_22 (by decide) ?_
      obtain rfl := Option.some.inj h
      exact g_zret (v := b2i false) hx hb hr hlocks (b2i_nar false) hM hS dX7_fits_23
    · replace h := gif_f c4 h
      refine lv_iconst (v := (1 : Int32)) hx hb dX7_fits_18 (by decide) ?_
      refine lv_goto (tgt := 23) hx hb dX7_fits_19 (by decide) ?_
      obtain rfl := Option.some.inj h
      exact g_zret (v := b2i true) hx hb hr hlocks (b2i_nar true) hM hS dX7_fits_23
def f_X7_setReading (p1 : Int32) (p2 : Int32) (p3 : Int32) (p4 : Int32) (μ : gM) : Option (Int32 × gM) :=
  Option.bind (f_X7_isIndex p1 (gi μ 34 2) μ) (fun q1 => if ((b2i q1) = 0) then some ((-1 : Int32), μ) else Option.bind (f_X3_hasSetup p1 p2 μ) (fun q3 => if ((b2i q3) = 0) then some ((-1 : Int32), μ) else Option.bind (f_X7_isIndex p3 (4 : Int32) μ) (fun q5 => if ((b2i q5) = 0) then some ((-2 : Int32), μ) else Option.bind (f_X7_fits p3 p4 μ) (fun q7 => if ((b2i q7) = 0) then some ((-2 : Int32), μ) else Option.bind (f_X3_place p1 p2 μ) (fun q9 => gchk (gIn (q9 + p3) 640) (Option.bind (f_X7_keepBefore (1 : Int32) (q9 + p3) (gi μ 44 (q9 + p3).toNatClampNeg) μ) (fun q11 => gchk (gIn (q9 + p3) 640) (some ((gi μ 44 (q9 + p3).toNatClampNeg), (si q11 44 (q9 + p3).toNatClampNeg p4))))))))))
set_option maxHeartbeats 4000000 in
set_option maxRecDepth 100000 in
theorem c_X7_setReading {l : Launch} {D : va_G} {cy : Nat → ClassId} {ad : Nat → Nat} {base : gBs} {p1 : Int32} {p2 : Int32} {p3 : Int32} {p4 : Int32} {μ : gM} {RES : Int32 × gM} (h : f_X7_setReading p1 p2 p3 p4 μ = some RES) : Met l yX7_setReading [.code yX7_setReading cX7_setReading 7 (some .int)] ({ frames := 3, cells := 0, slots := 0, locals := 112 } : Room) (va_Pc [.ref (ad 0), .int p1, .int p2, .int p3, .int p4] (gB l gFull D cy ad base μ)) (gQ (some (.int RES.1)) gFull D cy ad base RES.2) 0 0 (gA base) := by
  refine Met.ofW (cc := cX7_setReading) (maxL := 7) (ret := (some .int)) (by decide) rfl ?_
  intro p e s m args below meth c s₁ B hml0 hv
  obtain ⟨rfl, E, hM⟩ := hv
  have F : gF p s m meth c cX7_setReading RX7 7 (some .int) := gF_of B hml0
  obtain ⟨hx, hb, hml, hown, hlocks, hr⟩ := id F
  have hS : va_S (gA base) s.heap s.heap [] := va_S.rf
  have hl := lv_entry ([.ref (ad 0), .int p1, .int p2, .int p3, .int p4]) (n := 7) (Nat.le_of_ble_eq_true rfl)
  rw [lg_entry_eq]
  generalize (lg_sl ([.ref (ad 0), .int p1, .int p2, .int p3, .int p4]) ++ List.replicate (7 - (lg_sl ([.ref (ad 0), .int p1, .int p2, .int p3, .int p4])).length) Slot.unset).toArray = ls at hl ⊢
  have hl : lv_has ls 7 [(0, .ref (ad 0)), (1, .int p1), (2, .int p2), (3, .int p3), (4, .int p4)] := hl
  unfold f_X7_setReading at h
  refine lv_iload_n hx hb dX7_setReading_0 rfl (lv_at hl 1 rfl) ?_
  refine lv_aload_n hx hb dX7_setReading_1 rfl (lv_at hl 0 rfl) ?_
  refine gg_0_5 hx hb hown E hM hk_0 kw_491 dX7_setReading_2 ?_
  refine gg_34_2 hx hb hown E hM hk_34 kw_404 dX7_setReading_5 ?_
  obtain ⟨q1, hq1, h⟩ := gbind_e h
  refine g_callS (As := [.int p1, .int (gi μ 34 2)]) (rest := []) hx hb (hml.trans hl.1.symm) hown E hM hS hy_X7_isIndex kw_1077 (c_X7_isIndex hq1) rfl rfl (Nat.le_of_ble_eq_true rfl) ⟨Nat.le_of_ble_eq_true rfl, Nat.le_of_ble_eq_true rfl⟩ ⟨Nat.le_of_ble_eq_true rfl, Nat.le_of_ble_eq_true rfl⟩ dX7_setReading_8 (fun H locs hM hS => ?_)
  refine lv_if_eq (tgt := 26) hx hb dX7_setReading_11 (by decide) (fun c2 => ?_) (fun c2 => ?_)
  · replace h := gif_t c2 h
    refine lv_iconst (v := (-1 : Int32)) hx hb dX7_setReading_26 (by decide) ?_
    obtain rfl := Option.some.inj h
    exact g_iret hx hb hr hlocks hM hS dX7_setReading_27
  · replace h := gif_f c2 h
    refine lv_aload_n hx hb dX7_setReading_14 rfl (lv_at hl 0 rfl) ?_
    refine gg_0_5 hx hb hown E hM hk_0 kw_491 dX7_setReading_15 ?_
    refine lv_iload_n hx hb dX7_setReading_18 rfl (lv_at hl 1 rfl) ?_
    refine lv_iload_n hx hb dX7_setReading_19 rfl (lv_at hl 2 rfl) ?_
    obtain ⟨q3, hq3, h⟩ := gbind_e h
    refine g_callV (As := [.int p1, .int p2]) (rest := []) hx hb (hml.trans hl.1.symm) hown E hM hS hy_X3_hasSetup kw_1220 (c_X3_hasSetup hq3) hk_34 dd_34 rfl rfl rfl (Nat.le_of_ble_eq_true rfl) ⟨Nat.le_of_ble_eq_true rfl, Nat.le_of_ble_eq_true rfl⟩ ⟨Nat.le_of_ble_eq_true rfl, Nat.le_of_ble_eq_true rfl⟩ dX7_setReading_20 (fun H locs hM hS => ?_)
    refine lv_if_ne (tgt := 28) hx hb dX7_setReading_23 (by decide) (fun c4 => ?_) (fun c4 => ?_)
    · replace h := gif_f c4 h
      refine lv_iload_n hx hb dX7_setReading_28 rfl (lv_at hl 3 rfl) ?_
      refine lv_iconst (v := (4 : Int32)) hx hb dX7_setReading_29 (by decide) ?_
      obtain ⟨q5, hq5, h⟩ := gbind_e h
      refine g_callS (As := [.int p3, .int (4 : Int32)]) (rest := []) hx hb (hml.trans hl.1.symm) hown E hM hS hy_X7_isIndex kw_1077 (c_X7_isIndex hq5) rfl rfl (Nat.le_of_ble_eq_true rfl) ⟨Nat.le_of_ble_eq_true rfl, Nat.le_of_ble_eq_true rfl⟩ ⟨Nat.le_of_ble_eq_true rfl, Nat.le_of_ble_eq_true rfl⟩ dX7_setReading_30 (fun H locs hM hS => ?_)
      refine lv_if_eq (tgt := 45) hx hb dX7_setReading_33 (by decide) (fun c6 => ?_) (fun c6 => ?_)
      · replace h := gif_t c6 h
        refine lv_bipush (v := (-2 : Int32)) hx hb dX7_setReading_45 (by decide) ?_
        obtain rfl := Option.some.inj h
        exact g_iret hx hb hr hlocks hM hS dX7_setReading_47
      · replace h := gif_f c6 h
        refine lv_iload_n hx hb dX7_setReading_36 rfl (lv_at hl 3 rfl) ?_
        refine lv_iload hx hb dX7_setReading_37 (lv_at hl 4 rfl) ?_
        obtain ⟨q7, hq7, h⟩ := gbind_e h
        refine g_callS (As := [.int p3, .int p4]) (rest := []) hx hb (hml.trans hl.1.symm) hown E hM hS hy_X7_fits kw_1521 (c_X7_fits hq7) rfl rfl (Nat.le_of_ble_eq_true rfl) ⟨Nat.le_of_ble_eq_true rfl, Nat.le_of_ble_eq_true rfl⟩ ⟨Nat.le_of_ble_eq_true rfl, Nat.le_of_ble_eq_true rfl⟩ dX7_setReading_39 (fun H locs hM hS => ?_)
        refine lv_if_ne (tgt := 48) hx hb dX7_setReading_42 (by decide) (fun c8 => ?_) (fun c8 => ?_)
        · replace h := gif_f c8 h
          refine lv_aload_n hx hb dX7_setReading_48 rfl (lv_at hl 0 rfl) ?_
          refine gg_0_5 hx hb hown E hM hk_0 kw_491 dX7_setReading_49 ?_
          refine lv_iload_n hx hb dX7_setReading_52 rfl (lv_at hl 1 rfl) ?_
          refine lv_iload_n hx hb dX7_setReading_53 rfl (lv_at hl 2 rfl) ?_
          obtain ⟨q9, hq9, h⟩ := gbind_e h
          refine g_callV (As := [.int p1, .int p2]) (rest := []) hx hb (hml.trans hl.1.symm) hown E hM hS hy_X3_place kw_1526 (c_X3_place hq9) hk_34 dd_34 rfl rfl rfl (Nat.le_of_ble_eq_true rfl) ⟨Nat.le_of_ble_eq_true rfl, Nat.le_of_ble_eq_true rfl⟩ ⟨Nat.le_of_ble_eq_true rfl, Nat.le_of_ble_eq_true rfl⟩ dX7_setReading_54 (fun H locs hM hS => ?_)
          refine lv_iload_n hx hb dX7_setReading_57 rfl (lv_at hl 3 rfl) ?_
          refine lv_iadd hx hb dX7_setReading_58 ?_
          refine lv_istore (lv' := [(5, .int (q9 + p3)), (0, .ref (ad 0)), (1, .int p1), (2, .int p2), (3, .int p3), (4, .int p4)]) hx hb dX7_setReading_59 hl (by decide) rfl (fun ls hl => ?_)
          refine lv_aload_n hx hb dX7_setReading_61 rfl (lv_at hl 1 rfl) ?_
          refine gg_0_5 hx hb hown E hM hk_0 kw_491 dX7_setReading_62 ?_
          refine gg_34_14 hx hb hown E hM hk_34 kw_446 dX7_setReading_65 ?_
          refine lv_iload hx hb dX7_setReading_68 (lv_at hl 0 rfl) ?_
          obtain ⟨c10, h⟩ := gchk_e h
          refine g_iald hx hb E hM hk_44 dd_44 c10 dX7_setReading_70 ?_
          refine lv_istore (lv' := [(6, .int (gi μ 44 (q9 + p3).toNatClampNeg)), (5, .int (q9 + p3)), (0, .ref (ad 0)), (1, .int p1), (2, .int p2), (3, .int p3), (4, .int p4)]) hx hb dX7_setReading_71 hl (by decide) rfl (fun ls hl => ?_)
          refine lv_aload_n hx hb dX7_setReading_73 rfl (lv_at hl 2 rfl) ?_
          refine lv_iconst (v := (1 : Int32)) hx hb dX7_setReading_74 (by decide) ?_
          refine lv_iload hx hb dX7_setReading_75 (lv_at hl 1 rfl) ?_
          refine lv_iload hx hb dX7_setReading_77 (lv_at hl 0 rfl) ?_
          obtain ⟨q11, hq11, h⟩ := gbind_e h
          refine g_callV (As := [.int (1 : Int32), .int (q9 + p3), .int (gi μ 44 (q9 + p3).toNatClampNeg)]) (rest := []) hx hb (hml.trans hl.1.symm) hown E hM hS hy_X7_keepBefore kw_86 (c_X7_keepBefore hq11) hk_0 dd_0 rfl rfl rfl (Nat.le_of_ble_eq_true rfl) ⟨Nat.le_of_ble_eq_true rfl, Nat.le_of_ble_eq_true rfl⟩ ⟨Nat.le_of_ble_eq_true rfl, Nat.le_of_ble_eq_true rfl⟩ dX7_setReading_79 (fun H locs hM hS => ?_)
          refine lv_aload_n hx hb dX7_setReading_82 rfl (lv_at hl 2 rfl) ?_
          refine gg_0_5 hx hb hown E hM hk_0 kw_491 dX7_setReading_83 ?_
          refine gg_34_14 hx hb hown E hM hk_34 kw_446 dX7_setReading_86 ?_
          refine lv_iload hx hb dX7_setReading_89 (lv_at hl 1 rfl) ?_
          refine lv_iload hx hb dX7_setReading_91 (lv_at hl 6 rfl) ?_
          obtain ⟨c12, h⟩ := gchk_e h
          refine g_iast hx hb E hM hS hk_44 dd_44 c12 dX7_setReading_93 (fun H locs hM hS => ?_)
          refine lv_iload hx hb dX7_setReading_94 (lv_at hl 0 rfl) ?_
          obtain rfl := Option.some.inj h
          exact g_iret hx hb hr hlocks hM hS dX7_setReading_96
        · replace h := gif_t c8 h
          refine lv_bipush (v := (-2 : Int32)) hx hb dX7_setReading_45 (by decide) ?_
          obtain rfl := Option.some.inj h
          exact g_iret hx hb hr hlocks hM hS dX7_setReading_47
    · replace h := gif_t c4 h
      refine lv_iconst (v := (-1 : Int32)) hx hb dX7_setReading_26 (by decide) ?_
      obtain rfl := Option.some.inj h
      exact g_iret hx hb hr hlocks hM hS dX7_setReading_27
def f_X7_addSetup (p1 : Int32) (p2 : Int32) (p3 : Int32) (p4 : Int32) (p5 : Int32) (μ : gM) : Option (Int32 × gM) :=
  Option.bind (f_X7_isIndex p1 (gi μ 34 2) μ) (fun q1 => if ((b2i q1) = 0) then some ((-1 : Int32), μ) else Option.bind (f_X7_fits (0 : Int32) p2 μ) (fun q3 => if ((b2i q3) = 0) then some ((-2 : Int32), μ) else Option.bind (f_X7_fits (1 : Int32) p3 μ) (fun q5 => if ((b2i q5) = 0) then some ((-2 : Int32), μ) else Option.bind (f_X7_fits (2 : Int32) p4 μ) (fun q7 => if ((b2i q7) = 0) then some ((-2 : Int32), μ) else Option.bind (f_X7_fits (3 : Int32) p5 μ) (fun q9 => if ((b2i q9) = 0) then some ((-2 : Int32), μ) else gchk (gIn p1 20) (if ((gi μ 43 p1.toNatClampNeg) < (8 : Int32)) then Option.bind (f_X7_keepBefore (2 : Int32) p1 (gi μ 43 p1.toNatClampNeg) μ) (fun q13 => Option.bind (f_X3_place p1 (gi μ 43 p1.toNatClampNeg) q13) (fun q14 => gchk (gIn (q14 + (0 : Int32)) 640) (gchk (gIn (q14 + (1 : Int32)) 640) (gchk (gIn (q14 + (2 : Int32)) 640) (gchk (gIn (q14 + (3 : Int32)) 640) (gchk (gIn p1 20) (some (((gi μ 43 p1.toNatClampNeg) + (1 : Int32)), (si (si (si (si (si q13 44 (q14 + (0 : Int32)).toNatClampNeg p2) 44 (q14 + (1 : Int32)).toNatClampNeg p3) 44 (q14 + (2 : Int32)).toNatClampNeg p4) 44 (q14 + (3 : Int32)).toNatClampNeg p5) 43 p1.toNatClampNeg ((gi μ 43 p1.toNatClampNeg) + (1 : Int32))))))))))) else some ((-3 : Int32), μ)))))))
set_option maxHeartbeats 4000000 in
set_option maxRecDepth 100000 in
theorem c_X7_addSetup {l : Launch} {D : va_G} {cy : Nat → ClassId} {ad : Nat → Nat} {base : gBs} {p1 : Int32} {p2 : Int32} {p3 : Int32} {p4 : Int32} {p5 : Int32} {μ : gM} {RES : Int32 × gM} (h : f_X7_addSetup p1 p2 p3 p4 p5 μ = some RES) : Met l yX7_addSetup [.code yX7_addSetup cX7_addSetup 8 (some .int)] ({ frames := 3, cells := 0, slots := 0, locals := 112 } : Room) (va_Pc [.ref (ad 0), .int p1, .int p2, .int p3, .int p4, .int p5] (gB l gFull D cy ad base μ)) (gQ (some (.int RES.1)) gFull D cy ad base RES.2) 0 0 (gA base) := by
  refine Met.ofW (cc := cX7_addSetup) (maxL := 8) (ret := (some .int)) (by decide) rfl ?_
  intro p e s m args below meth c s₁ B hml0 hv
  obtain ⟨rfl, E, hM⟩ := hv
  have F : gF p s m meth c cX7_addSetup RX7 8 (some .int) := gF_of B hml0
  obtain ⟨hx, hb, hml, hown, hlocks, hr⟩ := id F
  have hS : va_S (gA base) s.heap s.heap [] := va_S.rf
  have hl := lv_entry ([.ref (ad 0), .int p1, .int p2, .int p3, .int p4, .int p5]) (n := 8) (Nat.le_of_ble_eq_true rfl)
  rw [lg_entry_eq]
  generalize (lg_sl ([.ref (ad 0), .int p1, .int p2, .int p3, .int p4, .int p5]) ++ List.replicate (8 - (lg_sl ([.ref (ad 0), .int p1, .int p2, .int p3, .int p4, .int p5])).length) Slot.unset).toArray = ls at hl ⊢
  have hl : lv_has ls 8 [(0, .ref (ad 0)), (1, .int p1), (2, .int p2), (3, .int p3), (4, .int p4), (5, .int p5)] := hl
  unfold f_X7_addSetup at h
  refine lv_iload_n hx hb dX7_addSetup_0 rfl (lv_at hl 1 rfl) ?_
  refine lv_aload_n hx hb dX7_addSetup_1 rfl (lv_at hl 0 rfl) ?_
  refine gg_0_5 hx hb hown E hM hk_0 kw_491 dX7_addSetup_2 ?_
  refine gg_34_2 hx hb hown E hM hk_34 kw_404 dX7_addSetup_5 ?_
  obtain ⟨q1, hq1, h⟩ := gbind_e h
  refine g_callS (As := [.int p1, .int (gi μ 34 2)]) (rest := []) hx hb (hml.trans hl.1.symm) hown E hM hS hy_X7_isIndex kw_1077 (c_X7_isIndex hq1) rfl rfl (Nat.le_of_ble_eq_true rfl) ⟨Nat.le_of_ble_eq_true rfl, Nat.le_of_ble_eq_true rfl⟩ ⟨Nat.le_of_ble_eq_true rfl, Nat.le_of_ble_eq_true rfl⟩ dX7_addSetup_8 (fun H locs hM hS => ?_)
  refine lv_if_ne (tgt := 16) hx hb dX7_addSetup_11 (by decide) (fun c2 => ?_) (fun c2 => ?_)
  · replace h := gif_f c2 h
    refine lv_iconst (v := (0 : Int32)) hx hb dX7_addSetup_16 (by decide) ?_
    refine lv_iload_n hx hb dX7_addSetup_17 rfl (lv_at hl 2 rfl) ?_
    obtain ⟨q3, hq3, h⟩ := gbind_e h
    refine g_callS (As := [.int (0 : Int32), .int p2]) (rest := []) hx hb (hml.trans hl.1.symm) hown E hM hS hy_X7_fits kw_1521 (c_X7_fits hq3) rfl rfl (Nat.le_of_ble_eq_true rfl) ⟨Nat.le_of_ble_eq_true rfl, Nat.le_of_ble_eq_true rfl⟩ ⟨Nat.le_of_ble_eq_true rfl, Nat.le_of_ble_eq_true rfl⟩ dX7_addSetup_18 (fun H locs hM hS => ?_)
    refine lv_if_eq (tgt := 50) hx hb dX7_addSetup_21 (by decide) (fun c4 => ?_) (fun c4 => ?_)
    · replace h := gif_t c4 h
      refine lv_bipush (v := (-2 : Int32)) hx hb dX7_addSetup_50 (by decide) ?_
      obtain rfl := Option.some.inj h
      exact g_iret hx hb hr hlocks hM hS dX7_addSetup_52
    · replace h := gif_f c4 h
      refine lv_iconst (v := (1 : Int32)) hx hb dX7_addSetup_24 (by decide) ?_
      refine lv_iload_n hx hb dX7_addSetup_25 rfl (lv_at hl 3 rfl) ?_
      obtain ⟨q5, hq5, h⟩ := gbind_e h
      refine g_callS (As := [.int (1 : Int32), .int p3]) (rest := []) hx hb (hml.trans hl.1.symm) hown E hM hS hy_X7_fits kw_1521 (c_X7_fits hq5) rfl rfl (Nat.le_of_ble_eq_true rfl) ⟨Nat.le_of_ble_eq_true rfl, Nat.le_of_ble_eq_true rfl⟩ ⟨Nat.le_of_ble_eq_true rfl, Nat.le_of_ble_eq_true rfl⟩ dX7_addSetup_26 (fun H locs hM hS => ?_)
      refine lv_if_eq (tgt := 50) hx hb dX7_addSetup_29 (by decide) (fun c6 => ?_) (fun c6 => ?_)
      · replace h := gif_t c6 h
        refine lv_bipush (v := (-2 : Int32)) hx hb dX7_addSetup_50 (by decide) ?_
        obtain rfl := Option.some.inj h
        exact g_iret hx hb hr hlocks hM hS dX7_addSetup_52
      · replace h := gif_f c6 h
        refine lv_iconst (v := (2 : Int32)) hx hb dX7_addSetup_32 (by decide) ?_
        refine lv_iload hx hb dX7_addSetup_33 (lv_at hl 4 rfl) ?_
        obtain ⟨q7, hq7, h⟩ := gbind_e h
        refine g_callS (As := [.int (2 : Int32), .int p4]) (rest := []) hx hb (hml.trans hl.1.symm) hown E hM hS hy_X7_fits kw_1521 (c_X7_fits hq7) rfl rfl (Nat.le_of_ble_eq_true rfl) ⟨Nat.le_of_ble_eq_true rfl, Nat.le_of_ble_eq_true rfl⟩ ⟨Nat.le_of_ble_eq_true rfl, Nat.le_of_ble_eq_true rfl⟩ dX7_addSetup_35 (fun H locs hM hS => ?_)
        refine lv_if_eq (tgt := 50) hx hb dX7_addSetup_38 (by decide) (fun c8 => ?_) (fun c8 => ?_)
        · replace h := gif_t c8 h
          refine lv_bipush (v := (-2 : Int32)) hx hb dX7_addSetup_50 (by decide) ?_
          obtain rfl := Option.some.inj h
          exact g_iret hx hb hr hlocks hM hS dX7_addSetup_52
        · replace h := gif_f c8 h
          refine lv_iconst (v := (3 : Int32)) hx hb dX7_addSetup_41 (by decide) ?_
          refine lv_iload hx hb dX7_addSetup_42 (lv_at hl 5 rfl) ?_
          obtain ⟨q9, hq9, h⟩ := gbind_e h
          refine g_callS (As := [.int (3 : Int32), .int p5]) (rest := []) hx hb (hml.trans hl.1.symm) hown E hM hS hy_X7_fits kw_1521 (c_X7_fits hq9) rfl rfl (Nat.le_of_ble_eq_true rfl) ⟨Nat.le_of_ble_eq_true rfl, Nat.le_of_ble_eq_true rfl⟩ ⟨Nat.le_of_ble_eq_true rfl, Nat.le_of_ble_eq_true rfl⟩ dX7_addSetup_44 (fun H locs hM hS => ?_)
          refine lv_if_ne (tgt := 53) hx hb dX7_addSetup_47 (by decide) (fun c10 => ?_) (fun c10 => ?_)
          · replace h := gif_f c10 h
            refine lv_aload_n hx hb dX7_addSetup_53 rfl (lv_at hl 0 rfl) ?_
            refine gg_0_5 hx hb hown E hM hk_0 kw_491 dX7_addSetup_54 ?_
            refine gg_34_13 hx hb hown E hM hk_34 kw_443 dX7_addSetup_57 ?_
            refine lv_iload_n hx hb dX7_addSetup_60 rfl (lv_at hl 1 rfl) ?_
            obtain ⟨c11, h⟩ := gchk_e h
            refine g_iald hx hb E hM hk_43 dd_43 c11 dX7_addSetup_61 ?_
            refine lv_istore (lv' := [(6, .int (gi μ 43 p1.toNatClampNeg)), (0, .ref (ad 0)), (1, .int p1), (2, .int p2), (3, .int p3), (4, .int p4), (5, .int p5)]) hx hb dX7_addSetup_62 hl (by decide) rfl (fun ls hl => ?_)
            refine lv_iload hx hb dX7_addSetup_64 (lv_at hl 0 rfl) ?_
            refine lv_bipush (v := (8 : Int32)) hx hb dX7_addSetup_66 (by decide) ?_
            refine lv_icmp_lt (tgt := 74) hx hb dX7_addSetup_68 (by decide) (fun c12 => ?_) (fun c12 => ?_)
            · replace h := gif_t c12 h
              refine lv_aload_n hx hb dX7_addSetup_74 rfl (lv_at hl 1 rfl) ?_
              refine lv_iconst (v := (2 : Int32)) hx hb dX7_addSetup_75 (by decide) ?_
              refine lv_iload_n hx hb dX7_addSetup_76 rfl (lv_at hl 2 rfl) ?_
              refine lv_iload hx hb dX7_addSetup_77 (lv_at hl 0 rfl) ?_
              obtain ⟨q13, hq13, h⟩ := gbind_e h
              refine g_callV (As := [.int (2 : Int32), .int p1, .int (gi μ 43 p1.toNatClampNeg)]) (rest := []) hx hb (hml.trans hl.1.symm) hown E hM hS hy_X7_keepBefore kw_86 (c_X7_keepBefore hq13) hk_0 dd_0 rfl rfl rfl (Nat.le_of_ble_eq_true rfl) ⟨Nat.le_of_ble_eq_true rfl, Nat.le_of_ble_eq_true rfl⟩ ⟨Nat.le_of_ble_eq_true rfl, Nat.le_of_ble_eq_true rfl⟩ dX7_addSetup_79 (fun H locs hM hS => ?_)
              refine lv_aload_n hx hb dX7_addSetup_82 rfl (lv_at hl 1 rfl) ?_
              refine gg_0_5 hx hb hown E hM hk_0 kw_491 dX7_addSetup_83 ?_
              refine lv_iload_n hx hb dX7_addSetup_86 rfl (lv_at hl 2 rfl) ?_
              refine lv_iload hx hb dX7_addSetup_87 (lv_at hl 0 rfl) ?_
              obtain ⟨q14, hq14, h⟩ := gbind_e h
              refine g_callV (As := [.int p1, .int (gi μ 43 p1.toNatClampNeg)]) (rest := []) hx hb (hml.trans hl.1.symm) hown E hM hS hy_X3_place kw_1526 (c_X3_place hq14) hk_34 dd_34 rfl rfl rfl (Nat.le_of_ble_eq_true rfl) ⟨Nat.le_of_ble_eq_true rfl, Nat.le_of_ble_eq_true rfl⟩ ⟨Nat.le_of_ble_eq_true rfl, Nat.le_of_ble_eq_true rfl⟩ dX7_addSetup_89 (fun H locs hM hS => ?_)
              refine lv_istore (lv' := [(7, .int q14), (6, .int (gi μ 43 p1.toNatClampNeg)), (0, .ref (ad 0)), (1, .int p1), (2, .int p2), (3, .int p3), (4, .int p4), (5, .int p5)]) hx hb dX7_addSetup_92 hl (by decide) rfl (fun ls hl => ?_)
              refine lv_aload_n hx hb dX7_addSetup_94 rfl (lv_at hl 2 rfl) ?_
              refine gg_0_5 hx hb hown E hM hk_0 kw_491 dX7_addSetup_95 ?_
              refine gg_34_14 hx hb hown E hM hk_34 kw_446 dX7_addSetup_98 ?_
              refine lv_iload hx hb dX7_addSetup_101 (lv_at hl 0 rfl) ?_
              refine lv_iconst (v := (0 : Int32)) hx hb dX7_addSetup_103 (by decide) ?_
              refine lv_iadd hx hb dX7_addSetup_104 ?_
              refine lv_iload_n hx hb dX7_addSetup_105 rfl (lv_at hl 4 rfl) ?_
              obtain ⟨c15, h⟩ := gchk_e h
              refine g_iast hx hb E hM hS hk_44 dd_44 c15 dX7_addSetup_106 (fun H locs hM hS => ?_)
              refine lv_aload_n hx hb dX7_addSetup_107 rfl (lv_at hl 2 rfl) ?_
              refine gg_0_5 hx hb hown E hM hk_0 kw_491 dX7_addSetup_108 ?_
              refine gg_34_14 hx hb hown E hM hk_34 kw_446 dX7_addSetup_111 ?_
              refine lv_iload hx hb dX7_addSetup_114 (lv_at hl 0 rfl) ?_
              refine lv_iconst (v := (1 : Int32)) hx hb dX7_addSetup_116 (by decide) ?_
              refine lv_iadd hx hb dX7_addSetup_117 ?_
              refine lv_iload_n hx hb dX7_addSetup_118 rfl (lv_at hl 5 rfl) ?_
              obtain ⟨c16, h⟩ := gchk_e h
              refine g_iast hx hb E hM hS hk_44 dd_44 c16 dX7_addSetup_119 (fun H locs hM hS => ?_)
              refine lv_aload_n hx hb dX7_addSetup_120 rfl (lv_at hl 2 rfl) ?_
              refine gg_0_5 hx hb hown E hM hk_0 kw_491 dX7_addSetup_121 ?_
              refine gg_34_14 hx hb hown E hM hk_34 kw_446 dX7_addSetup_124 ?_
              refine lv_iload hx hb dX7_addSetup_127 (lv_at hl 0 rfl) ?_
              refine lv_iconst (v := (2 : Int32)) hx hb dX7_addSetup_129 (by decide) ?_
              refine lv_iadd hx hb dX7_addSetup_130 ?_
              refine lv_iload hx hb dX7_addSetup_131 (lv_at hl 6 rfl) ?_
              obtain ⟨c17, h⟩ := gchk_e h
              refine g_iast hx hb E hM hS hk_44 dd_44 c17 dX7_addSetup_133 (fun H locs hM hS => ?_)
              refine lv_aload_n hx hb dX7_addSetup_134 rfl (lv_at hl 2 rfl) ?_
              refine gg_0_5 hx hb hown E hM hk_0 kw_491 dX7_addSetup_135 ?_
              refine gg_34_14 hx hb hown E hM hk_34 kw_446 dX7_addSetup_138 ?_
              refine lv_iload hx hb dX7_addSetup_141 (lv_at hl 0 rfl) ?_
              refine lv_iconst (v := (3 : Int32)) hx hb dX7_addSetup_143 (by decide) ?_
              refine lv_iadd hx hb dX7_addSetup_144 ?_
              refine lv_iload hx hb dX7_addSetup_145 (lv_at hl 7 rfl) ?_
              obtain ⟨c18, h⟩ := gchk_e h
              refine g_iast hx hb E hM hS hk_44 dd_44 c18 dX7_addSetup_147 (fun H locs hM hS => ?_)
              refine lv_aload_n hx hb dX7_addSetup_148 rfl (lv_at hl 2 rfl) ?_
              refine gg_0_5 hx hb hown E hM hk_0 kw_491 dX7_addSetup_149 ?_
              refine gg_34_13 hx hb hown E hM hk_34 kw_443 dX7_addSetup_152 ?_
              refine lv_iload_n hx hb dX7_addSetup_155 rfl (lv_at hl 3 rfl) ?_
              refine lv_iload hx hb dX7_addSetup_156 (lv_at hl 1 rfl) ?_
              refine lv_iconst (v := (1 : Int32)) hx hb dX7_addSetup_158 (by decide) ?_
              refine lv_iadd hx hb dX7_addSetup_159 ?_
              obtain ⟨c19, h⟩ := gchk_e h
              refine g_iast hx hb E hM hS hk_43 dd_43 c19 dX7_addSetup_160 (fun H locs hM hS => ?_)
              refine lv_iload hx hb dX7_addSetup_161 (lv_at hl 1 rfl) ?_
              refine lv_iconst (v := (1 : Int32)) hx hb dX7_addSetup_163 (by decide) ?_
              refine lv_iadd hx hb dX7_addSetup_164 ?_
              obtain rfl := Option.some.inj h
              exact g_iret hx hb hr hlocks hM hS dX7_addSetup_165
            · replace h := gif_f c12 h
              refine lv_bipush (v := (-3 : Int32)) hx hb dX7_addSetup_71 (by decide) ?_
              obtain rfl := Option.some.inj h
              exact g_iret hx hb hr hlocks hM hS dX7_addSetup_73
          · replace h := gif_t c10 h
            refine lv_bipush (v := (-2 : Int32)) hx hb dX7_addSetup_50 (by decide) ?_
            obtain rfl := Option.some.inj h
            exact g_iret hx hb hr hlocks hM hS dX7_addSetup_52
  · replace h := gif_t c2 h
    refine lv_iconst (v := (-1 : Int32)) hx hb dX7_addSetup_14 (by decide) ?_
    obtain rfl := Option.some.inj h
    exact g_iret hx hb hr hlocks hM hS dX7_addSetup_15
def f_X7_setActive (p1 : Int32) (p2 : Int32) (μ : gM) : Option (Int32 × gM) :=
  Option.bind (f_X7_isIndex p1 (gi μ 34 2) μ) (fun q1 => if ((b2i q1) = 0) then some ((-1 : Int32), μ) else Option.bind (f_X7_keepBefore (3 : Int32) p1 (gi μ 34 4) μ) (fun q3 => if (p2 = 0) then Option.bind (f_X7_countLoops  (si q3 34 4 ((gi q3 34 4) &&& (((1 : Int32) <<< (p1 &&& 31)) ^^^ (-1 : Int32))))) (fun q5 => some (q5.1, q5.2)) else Option.bind (f_X7_countLoops  (si q3 34 4 ((gi q3 34 4) ||| ((1 : Int32) <<< (p1 &&& 31))))) (fun q6 => some (q6.1, q6.2))))
set_option maxHeartbeats 4000000 in
set_option maxRecDepth 100000 in
theorem c_X7_setActive {l : Launch} {D : va_G} {cy : Nat → ClassId} {ad : Nat → Nat} {base : gBs} {p1 : Int32} {p2 : Int32} {μ : gM} {RES : Int32 × gM} (h : f_X7_setActive p1 p2 μ = some RES) : Met l yX7_setActive [.code yX7_setActive cX7_setActive 3 (some .int)] ({ frames := 4, cells := 0, slots := 0, locals := 112 } : Room) (va_Pc [.ref (ad 0), .int p1, .int p2] (gB l gFull D cy ad base μ)) (gQ (some (.int RES.1)) gFull D cy ad base RES.2) 0 0 (gA base) := by
  refine Met.ofW (cc := cX7_setActive) (maxL := 3) (ret := (some .int)) (by decide) rfl ?_
  intro p e s m args below meth c s₁ B hml0 hv
  obtain ⟨rfl, E, hM⟩ := hv
  have F : gF p s m meth c cX7_setActive RX7 3 (some .int) := gF_of B hml0
  obtain ⟨hx, hb, hml, hown, hlocks, hr⟩ := id F
  have hS : va_S (gA base) s.heap s.heap [] := va_S.rf
  have hl := lv_entry ([.ref (ad 0), .int p1, .int p2]) (n := 3) (Nat.le_of_ble_eq_true rfl)
  rw [lg_entry_eq]
  generalize (lg_sl ([.ref (ad 0), .int p1, .int p2]) ++ List.replicate (3 - (lg_sl ([.ref (ad 0), .int p1, .int p2])).length) Slot.unset).toArray = ls at hl ⊢
  have hl : lv_has ls 3 [(0, .ref (ad 0)), (1, .int p1), (2, .int p2)] := hl
  unfold f_X7_setActive at h
  refine lv_iload_n hx hb dX7_setActive_0 rfl (lv_at hl 1 rfl) ?_
  refine lv_aload_n hx hb dX7_setActive_1 rfl (lv_at hl 0 rfl) ?_
  refine gg_0_5 hx hb hown E hM hk_0 kw_491 dX7_setActive_2 ?_
  refine gg_34_2 hx hb hown E hM hk_34 kw_404 dX7_setActive_5 ?_
  obtain ⟨q1, hq1, h⟩ := gbind_e h
  refine g_callS (As := [.int p1, .int (gi μ 34 2)]) (rest := []) hx hb (hml.trans hl.1.symm) hown E hM hS hy_X7_isIndex kw_1077 (c_X7_isIndex hq1) rfl rfl (Nat.le_of_ble_eq_true rfl) ⟨Nat.le_of_ble_eq_true rfl, Nat.le_of_ble_eq_true rfl⟩ ⟨Nat.le_of_ble_eq_true rfl, Nat.le_of_ble_eq_true rfl⟩ dX7_setActive_8 (fun H locs hM hS => ?_)
  refine lv_if_ne (tgt := 16) hx hb dX7_setActive_11 (by decide) (fun c2 => ?_) (fun c2 => ?_)
  · replace h := gif_f c2 h
    refine lv_aload_n hx hb dX7_setActive_16 rfl (lv_at hl 0 rfl) ?_
    refine lv_iconst (v := (3 : Int32)) hx hb dX7_setActive_17 (by decide) ?_
    refine lv_iload_n hx hb dX7_setActive_18 rfl (lv_at hl 1 rfl) ?_
    refine lv_aload_n hx hb dX7_setActive_19 rfl (lv_at hl 0 rfl) ?_
    refine gg_0_5 hx hb hown E hM hk_0 kw_491 dX7_setActive_20 ?_
    refine gg_34_4 hx hb hown E hM hk_34 kw_411 dX7_setActive_23 ?_
    obtain ⟨q3, hq3, h⟩ := gbind_e h
    refine g_callV (As := [.int (3 : Int32), .int p1, .int (gi μ 34 4)]) (rest := []) hx hb (hml.trans hl.1.symm) hown E hM hS hy_X7_keepBefore kw_86 (c_X7_keepBefore hq3) hk_0 dd_0 rfl rfl rfl (Nat.le_of_ble_eq_true rfl) ⟨Nat.le_of_ble_eq_true rfl, Nat.le_of_ble_eq_true rfl⟩ ⟨Nat.le_of_ble_eq_true rfl, Nat.le_of_ble_eq_true rfl⟩ dX7_setActive_26 (fun H locs hM hS => ?_)
    refine lv_iload_n hx hb dX7_setActive_29 rfl (lv_at hl 2 rfl) ?_
    refine lv_if_eq (tgt := 51) hx hb dX7_setActive_30 (by decide) (fun c4 => ?_) (fun c4 => ?_)
    · replace h := gif_t c4 h
      refine lv_aload_n hx hb dX7_setActive_51 rfl (lv_at hl 0 rfl) ?_
      refine gg_0_5 hx hb hown E hM hk_0 kw_491 dX7_setActive_52 ?_
      refine lv_dup hx hb dX7_setActive_55 rfl ?_
      refine gg_34_4 hx hb hown E hM hk_34 kw_411 dX7_setActive_56 ?_
      refine lv_iconst (v := (1 : Int32)) hx hb dX7_setActive_59 (by decide) ?_
      refine lv_iload_n hx hb dX7_setActive_60 rfl (lv_at hl 1 rfl) ?_
      refine lv_ishl hx hb dX7_setActive_61 ?_
      refine lv_iconst (v := (-1 : Int32)) hx hb dX7_setActive_62 (by decide) ?_
      refine lv_ixor hx hb dX7_setActive_63 ?_
      refine lv_iand hx hb dX7_setActive_64 ?_
      refine gp_34_4 hx hb hown E hM hS hk_34 kw_411 dX7_setActive_65 (fun H locs hM hS => ?_)
      refine lv_aload_n hx hb dX7_setActive_68 rfl (lv_at hl 0 rfl) ?_
      obtain ⟨q5, hq5, h⟩ := gbind_e h
      refine g_callV (As := []) (rest := []) hx hb (hml.trans hl.1.symm) hown E hM hS hy_X7_countLoops kw_1341 (c_X7_countLoops hq5) hk_0 dd_0 rfl rfl rfl (Nat.le_of_ble_eq_true rfl) ⟨Nat.le_of_ble_eq_true rfl, Nat.le_of_ble_eq_true rfl⟩ ⟨Nat.le_of_ble_eq_true rfl, Nat.le_of_ble_eq_true rfl⟩ dX7_setActive_69 (fun H locs hM hS => ?_)
      obtain rfl := Option.some.inj h
      exact g_iret hx hb hr hlocks hM hS dX7_setActive_72
    · replace h := gif_f c4 h
      refine lv_aload_n hx hb dX7_setActive_33 rfl (lv_at hl 0 rfl) ?_
      refine gg_0_5 hx hb hown E hM hk_0 kw_491 dX7_setActive_34 ?_
      refine lv_dup hx hb dX7_setActive_37 rfl ?_
      refine gg_34_4 hx hb hown E hM hk_34 kw_411 dX7_setActive_38 ?_
      refine lv_iconst (v := (1 : Int32)) hx hb dX7_setActive_41 (by decide) ?_
      refine lv_iload_n hx hb dX7_setActive_42 rfl (lv_at hl 1 rfl) ?_
      refine lv_ishl hx hb dX7_setActive_43 ?_
      refine lv_ior hx hb dX7_setActive_44 ?_
      refine gp_34_4 hx hb hown E hM hS hk_34 kw_411 dX7_setActive_45 (fun H locs hM hS => ?_)
      refine lv_goto (tgt := 68) hx hb dX7_setActive_48 (by decide) ?_
      refine lv_aload_n hx hb dX7_setActive_68 rfl (lv_at hl 0 rfl) ?_
      obtain ⟨q6, hq6, h⟩ := gbind_e h
      refine g_callV (As := []) (rest := []) hx hb (hml.trans hl.1.symm) hown E hM hS hy_X7_countLoops kw_1341 (c_X7_countLoops hq6) hk_0 dd_0 rfl rfl rfl (Nat.le_of_ble_eq_true rfl) ⟨Nat.le_of_ble_eq_true rfl, Nat.le_of_ble_eq_true rfl⟩ ⟨Nat.le_of_ble_eq_true rfl, Nat.le_of_ble_eq_true rfl⟩ dX7_setActive_69 (fun H locs hM hS => ?_)
      obtain rfl := Option.some.inj h
      exact g_iret hx hb hr hlocks hM hS dX7_setActive_72
  · replace h := gif_t c2 h
    refine lv_iconst (v := (-1 : Int32)) hx hb dX7_setActive_14 (by decide) ?_
    obtain rfl := Option.some.inj h
    exact g_iret hx hb hr hlocks hM hS dX7_setActive_15
def f_X7_changeCollimation (p1 : Int32) (p2 : Int32) (μ : gM) : Option (Int32 × gM) :=
  gchk (gIn p1 3) (Option.bind (f_X7_keepBefore (4 : Int32) p1 (gi μ 37 p1.toNatClampNeg) μ) (fun q2 => gchk (gIn p1 3) (some ((gi μ 37 p1.toNatClampNeg), (si q2 37 p1.toNatClampNeg p2)))))
set_option maxHeartbeats 4000000 in
set_option maxRecDepth 100000 in
theorem c_X7_changeCollimation {l : Launch} {D : va_G} {cy : Nat → ClassId} {ad : Nat → Nat} {base : gBs} {p1 : Int32} {p2 : Int32} {μ : gM} {RES : Int32 × gM} (h : f_X7_changeCollimation p1 p2 μ = some RES) : Met l yX7_changeCollimation [.code yX7_changeCollimation cX7_changeCollimation 4 (some .int)] ({ frames := 3, cells := 0, slots := 0, locals := 112 } : Room) (va_Pc [.ref (ad 0), .int p1, .int p2] (gB l gFull D cy ad base μ)) (gQ (some (.int RES.1)) gFull D cy ad base RES.2) 0 0 (gA base) := by
  refine Met.ofW (cc := cX7_changeCollimation) (maxL := 4) (ret := (some .int)) (by decide) rfl ?_
  intro p e s m args below meth c s₁ B hml0 hv
  obtain ⟨rfl, E, hM⟩ := hv
  have F : gF p s m meth c cX7_changeCollimation RX7 4 (some .int) := gF_of B hml0
  obtain ⟨hx, hb, hml, hown, hlocks, hr⟩ := id F
  have hS : va_S (gA base) s.heap s.heap [] := va_S.rf
  have hl := lv_entry ([.ref (ad 0), .int p1, .int p2]) (n := 4) (Nat.le_of_ble_eq_true rfl)
  rw [lg_entry_eq]
  generalize (lg_sl ([.ref (ad 0), .int p1, .int p2]) ++ List.replicate (4 - (lg_sl ([.ref (ad 0), .int p1, .int p2])).length) Slot.unset).toArray = ls at hl ⊢
  have hl : lv_has ls 4 [(0, .ref (ad 0)), (1, .int p1), (2, .int p2)] := hl
  unfold f_X7_changeCollimation at h
  refine lv_aload_n hx hb dX7_changeCollimation_0 rfl (lv_at hl 0 rfl) ?_
  refine gg_0_5 hx hb hown E hM hk_0 kw_491 dX7_changeCollimation_1 ?_
  refine gg_34_7 hx hb hown E hM hk_34 kw_419 dX7_changeCollimation_4 ?_
  refine lv_iload_n hx hb dX7_changeCollimation_7 rfl (lv_at hl 1 rfl) ?_
  obtain ⟨c1, h⟩ := gchk_e h
  refine g_iald hx hb E hM hk_37 dd_37 c1 dX7_changeCollimation_8 ?_
  refine lv_istore_n (lv' := [(3, .int (gi μ 37 p1.toNatClampNeg)), (0, .ref (ad 0)), (1, .int p1), (2, .int p2)]) hx hb dX7_changeCollimation_9 rfl hl (by decide) rfl (fun ls hl => ?_)
  refine lv_aload_n hx hb dX7_changeCollimation_10 rfl (lv_at hl 1 rfl) ?_
  refine lv_iconst (v := (4 : Int32)) hx hb dX7_changeCollimation_11 (by decide) ?_
  refine lv_iload_n hx hb dX7_changeCollimation_12 rfl (lv_at hl 2 rfl) ?_
  refine lv_iload_n hx hb dX7_changeCollimation_13 rfl (lv_at hl 0 rfl) ?_
  obtain ⟨q2, hq2, h⟩ := gbind_e h
  refine g_callV (As := [.int (4 : Int32), .int p1, .int (gi μ 37 p1.toNatClampNeg)]) (rest := []) hx hb (hml.trans hl.1.symm) hown E hM hS hy_X7_keepBefore kw_86 (c_X7_keepBefore hq2) hk_0 dd_0 rfl rfl rfl (Nat.le_of_ble_eq_true rfl) ⟨Nat.le_of_ble_eq_true rfl, Nat.le_of_ble_eq_true rfl⟩ ⟨Nat.le_of_ble_eq_true rfl, Nat.le_of_ble_eq_true rfl⟩ dX7_changeCollimation_14 (fun H locs hM hS => ?_)
  refine lv_aload_n hx hb dX7_changeCollimation_17 rfl (lv_at hl 1 rfl) ?_
  refine gg_0_5 hx hb hown E hM hk_0 kw_491 dX7_changeCollimation_18 ?_
  refine gg_34_7 hx hb hown E hM hk_34 kw_419 dX7_changeCollimation_21 ?_
  refine lv_iload_n hx hb dX7_changeCollimation_24 rfl (lv_at hl 2 rfl) ?_
  refine lv_iload_n hx hb dX7_changeCollimation_25 rfl (lv_at hl 3 rfl) ?_
  obtain ⟨c3, h⟩ := gchk_e h
  refine g_iast hx hb E hM hS hk_37 dd_37 c3 dX7_changeCollimation_26 (fun H locs hM hS => ?_)
  refine lv_iload_n hx hb dX7_changeCollimation_27 rfl (lv_at hl 0 rfl) ?_
  obtain rfl := Option.some.inj h
  exact g_iret hx hb hr hlocks hM hS dX7_changeCollimation_28
def f_X7_setCollimation (p1 : Int32) (p2 : Int32) (μ : gM) : Option (Int32 × gM) :=
  Option.bind (f_X7_isIndex p1 (gi μ 34 0) μ) (fun q1 => if ((b2i q1) = 0) then some ((-2147483648 : Int32), μ) else if (p2 < (-200 : Int32)) then some ((-2147483648 : Int32), μ) else if (p2 ≤ (200 : Int32)) then Option.bind (f_X7_changeCollimation p1 p2 μ) (fun q5 => some (q5.1, q5.2)) else some ((-2147483648 : Int32), μ))
set_option maxHeartbeats 4000000 in
set_option maxRecDepth 100000 in
theorem c_X7_setCollimation {l : Launch} {D : va_G} {cy : Nat → ClassId} {ad : Nat → Nat} {base : gBs} {p1 : Int32} {p2 : Int32} {μ : gM} {RES : Int32 × gM} (h : f_X7_setCollimation p1 p2 μ = some RES) : Met l yX7_setCollimation [.code yX7_setCollimation cX7_setCollimation 3 (some .int)] ({ frames := 4, cells := 0, slots := 0, locals := 135 } : Room) (va_Pc [.ref (ad 0), .int p1, .int p2] (gB l gFull D cy ad base μ)) (gQ (some (.int RES.1)) gFull D cy ad base RES.2) 0 0 (gA base) := by
  refine Met.ofW (cc := cX7_setCollimation) (maxL := 3) (ret := (some .int)) (by decide) rfl ?_
  intro p e s m args below meth c s₁ B hml0 hv
  obtain ⟨rfl, E, hM⟩ := hv
  have F : gF p s m meth c cX7_setCollimation RX7 3 (some .int) := gF_of B hml0
  obtain ⟨hx, hb, hml, hown, hlocks, hr⟩ := id F
  have hS : va_S (gA base) s.heap s.heap [] := va_S.rf
  have hl := lv_entry ([.ref (ad 0), .int p1, .int p2]) (n := 3) (Nat.le_of_ble_eq_true rfl)
  rw [lg_entry_eq]
  generalize (lg_sl ([.ref (ad 0), .int p1, .int p2]) ++ List.replicate (3 - (lg_sl ([.ref (ad 0), .int p1, .int p2])).length) Slot.unset).toArray = ls at hl ⊢
  have hl : lv_has ls 3 [(0, .ref (ad 0)), (1, .int p1), (2, .int p2)] := hl
  unfold f_X7_setCollimation at h
  refine lv_iload_n hx hb dX7_setCollimation_0 rfl (lv_at hl 1 rfl) ?_
  refine lv_aload_n hx hb dX7_setCollimation_1 rfl (lv_at hl 0 rfl) ?_
  refine gg_0_5 hx hb hown E hM hk_0 kw_491 dX7_setCollimation_2 ?_
  refine gg_34_0 hx hb hown E hM hk_34 kw_391 dX7_setCollimation_5 ?_
  obtain ⟨q1, hq1, h⟩ := gbind_e h
  refine g_callS (As := [.int p1, .int (gi μ 34 0)]) (rest := []) hx hb (hml.trans hl.1.symm) hown E hM hS hy_X7_isIndex kw_1077 (c_X7_isIndex hq1) rfl rfl (Nat.le_of_ble_eq_true rfl) ⟨Nat.le_of_ble_eq_true rfl, Nat.le_of_ble_eq_true rfl⟩ ⟨Nat.le_of_ble_eq_true rfl, Nat.le_of_ble_eq_true rfl⟩ dX7_setCollimation_8 (fun H locs hM hS => ?_)
  refine lv_if_eq (tgt := 28) hx hb dX7_setCollimation_11 (by decide) (fun c2 => ?_) (fun c2 => ?_)
  · replace h := gif_t c2 h
    refine lv_ldc hx hb hown (v := (-2147483648 : Int32)) (E.kw kw_1225) dX7_setCollimation_28 ?_
    obtain rfl := Option.some.inj h
    exact g_iret hx hb hr hlocks hM hS dX7_setCollimation_30
  · replace h := gif_f c2 h
    refine lv_iload_n hx hb dX7_setCollimation_14 rfl (lv_at hl 2 rfl) ?_
    refine lv_sipush (v := (-200 : Int32)) hx hb dX7_setCollimation_15 (by decide) ?_
    refine lv_icmp_lt (tgt := 28) hx hb dX7_setCollimation_18 (by decide) (fun c3 => ?_) (fun c3 => ?_)
    · replace h := gif_t c3 h
      refine lv_ldc hx hb hown (v := (-2147483648 : Int32)) (E.kw kw_1225) dX7_setCollimation_28 ?_
      obtain rfl := Option.some.inj h
      exact g_iret hx hb hr hlocks hM hS dX7_setCollimation_30
    · replace h := gif_f c3 h
      refine lv_iload_n hx hb dX7_setCollimation_21 rfl (lv_at hl 2 rfl) ?_
      refine lv_sipush (v := (200 : Int32)) hx hb dX7_setCollimation_22 (by decide) ?_
      refine lv_icmp_le (tgt := 31) hx hb dX7_setCollimation_25 (by decide) (fun c4 => ?_) (fun c4 => ?_)
      · replace h := gif_t c4 h
        refine lv_aload_n hx hb dX7_setCollimation_31 rfl (lv_at hl 0 rfl) ?_
        refine lv_iload_n hx hb dX7_setCollimation_32 rfl (lv_at hl 1 rfl) ?_
        refine lv_iload_n hx hb dX7_setCollimation_33 rfl (lv_at hl 2 rfl) ?_
        obtain ⟨q5, hq5, h⟩ := gbind_e h
        refine g_callV (As := [.int p1, .int p2]) (rest := []) hx hb (hml.trans hl.1.symm) hown E hM hS hy_X7_changeCollimation kw_1539 (c_X7_changeCollimation hq5) hk_0 dd_0 rfl rfl rfl (Nat.le_of_ble_eq_true rfl) ⟨Nat.le_of_ble_eq_true rfl, Nat.le_of_ble_eq_true rfl⟩ ⟨Nat.le_of_ble_eq_true rfl, Nat.le_of_ble_eq_true rfl⟩ dX7_setCollimation_34 (fun H locs hM hS => ?_)
        obtain rfl := Option.some.inj h
        exact g_iret hx hb hr hlocks hM hS dX7_setCollimation_37
      · replace h := gif_f c4 h
        refine lv_ldc hx hb hown (v := (-2147483648 : Int32)) (E.kw kw_1225) dX7_setCollimation_28 ?_
        obtain rfl := Option.some.inj h
        exact g_iret hx hb hr hlocks hM hS dX7_setCollimation_30
def f_X7_adjust (p1 : Int32) (μ : gM) : Option (Int32 × gM) :=
  if (p1 < (1 : Int32)) then some ((-2 : Int32), μ) else if (p1 ≤ (200 : Int32)) then Option.bind (f_X7_keepBefore (6 : Int32) (0 : Int32) (0 : Int32) μ) (fun q3 => Option.bind (f_X0_settle p1 q3) (fun q4 => some (q4.1, q4.2))) else some ((-2 : Int32), μ)
set_option maxHeartbeats 4000000 in
set_option maxRecDepth 100000 in
theorem c_X7_adjust {l : Launch} {D : va_G} {cy : Nat → ClassId} {ad : Nat → Nat} {base : gBs} {p1 : Int32} {μ : gM} {RES : Int32 × gM} (h : f_X7_adjust p1 μ = some RES) : Met l yX7_adjust [.code yX7_adjust cX7_adjust 2 (some .int)] ({ frames := 6, cells := 0, slots := 0, locals := 140 } : Room) (va_Pc [.ref (ad 0), .int p1] (gB l gFull D cy ad base μ)) (gQ (some (.int RES.1)) gFull D cy ad base RES.2) 0 0 (gA base) := by
  refine Met.ofW (cc := cX7_adjust) (maxL := 2) (ret := (some .int)) (by decide) rfl ?_
  intro p e s m args below meth c s₁ B hml0 hv
  obtain ⟨rfl, E, hM⟩ := hv
  have F : gF p s m meth c cX7_adjust RX7 2 (some .int) := gF_of B hml0
  obtain ⟨hx, hb, hml, hown, hlocks, hr⟩ := id F
  have hS : va_S (gA base) s.heap s.heap [] := va_S.rf
  have hl := lv_entry ([.ref (ad 0), .int p1]) (n := 2) (Nat.le_of_ble_eq_true rfl)
  rw [lg_entry_eq]
  generalize (lg_sl ([.ref (ad 0), .int p1]) ++ List.replicate (2 - (lg_sl ([.ref (ad 0), .int p1])).length) Slot.unset).toArray = ls at hl ⊢
  have hl : lv_has ls 2 [(0, .ref (ad 0)), (1, .int p1)] := hl
  unfold f_X7_adjust at h
  refine lv_iload_n hx hb dX7_adjust_0 rfl (lv_at hl 1 rfl) ?_
  refine lv_iconst (v := (1 : Int32)) hx hb dX7_adjust_1 (by decide) ?_
  refine lv_icmp_lt (tgt := 12) hx hb dX7_adjust_2 (by decide) (fun c1 => ?_) (fun c1 => ?_)
  · replace h := gif_t c1 h
    refine lv_bipush (v := (-2 : Int32)) hx hb dX7_adjust_12 (by decide) ?_
    obtain rfl := Option.some.inj h
    exact g_iret hx hb hr hlocks hM hS dX7_adjust_14
  · replace h := gif_f c1 h
    refine lv_iload_n hx hb dX7_adjust_5 rfl (lv_at hl 1 rfl) ?_
    refine lv_sipush (v := (200 : Int32)) hx hb dX7_adjust_6 (by decide) ?_
    refine lv_icmp_le (tgt := 15) hx hb dX7_adjust_9 (by decide) (fun c2 => ?_) (fun c2 => ?_)
    · replace h := gif_t c2 h
      refine lv_aload_n hx hb dX7_adjust_15 rfl (lv_at hl 0 rfl) ?_
      refine lv_bipush (v := (6 : Int32)) hx hb dX7_adjust_16 (by decide) ?_
      refine lv_iconst (v := (0 : Int32)) hx hb dX7_adjust_18 (by decide) ?_
      refine lv_iconst (v := (0 : Int32)) hx hb dX7_adjust_19 (by decide) ?_
      obtain ⟨q3, hq3, h⟩ := gbind_e h
      refine g_callV (As := [.int (6 : Int32), .int (0 : Int32), .int (0 : Int32)]) (rest := []) hx hb (hml.trans hl.1.symm) hown E hM hS hy_X7_keepBefore kw_86 (c_X7_keepBefore hq3) hk_0 dd_0 rfl rfl rfl (Nat.le_of_ble_eq_true rfl) ⟨Nat.le_of_ble_eq_true rfl, Nat.le_of_ble_eq_true rfl⟩ ⟨Nat.le_of_ble_eq_true rfl, Nat.le_of_ble_eq_true rfl⟩ dX7_adjust_20 (fun H locs hM hS => ?_)
      refine lv_aload_n hx hb dX7_adjust_23 rfl (lv_at hl 0 rfl) ?_
      refine gg_0_3 hx hb hown E hM hk_0 kw_489 dX7_adjust_24 ?_
      refine lv_aload_n hx hb dX7_adjust_27 rfl (lv_at hl 0 rfl) ?_
      refine gg_0_5 hx hb hown E hM hk_0 kw_491 dX7_adjust_28 ?_
      refine lv_iload_n hx hb dX7_adjust_31 rfl (lv_at hl 1 rfl) ?_
      obtain ⟨q4, hq4, h⟩ := gbind_e h
      refine g_callV (As := [.ref (ad 34), .int p1]) (rest := []) hx hb (hml.trans hl.1.symm) hown E hM hS hy_X0_settle kw_98 (c_X0_settle hq4) hk_20 dd_20 rfl rfl rfl (Nat.le_of_ble_eq_true rfl) ⟨Nat.le_of_ble_eq_true rfl, Nat.le_of_ble_eq_true rfl⟩ ⟨Nat.le_of_ble_eq_true rfl, Nat.le_of_ble_eq_true rfl⟩ dX7_adjust_32 (fun H locs hM hS => ?_)
      obtain rfl := Option.some.inj h
      exact g_iret hx hb hr hlocks hM hS dX7_adjust_35
    · replace h := gif_f c2 h
      refine lv_bipush (v := (-2 : Int32)) hx hb dX7_adjust_12 (by decide) ?_
      obtain rfl := Option.some.inj h
      exact g_iret hx hb hr hlocks hM hS dX7_adjust_14
