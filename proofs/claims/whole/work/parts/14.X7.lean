theorem dX7_feed_0 : decode cX7_feed 0 = .ok (.aload_n 0, 1) := by decide +kernel
theorem dX7_feed_1 : decode cX7_feed 1 = .ok (.getfield 14, 3) := by decide +kernel
theorem dX7_feed_4 : decode cX7_feed 4 = .ok (.getfield 62, 3) := by decide +kernel
theorem dX7_feed_7 : decode cX7_feed 7 = .ok (.bipush 20, 2) := by decide +kernel
theorem dX7_feed_9 : decode cX7_feed 9 = .ok (.iadd, 1) := by decide +kernel
theorem dX7_feed_10 : decode cX7_feed 10 = .ok (.sipush 1200, 3) := by decide +kernel
theorem dX7_feed_13 : decode cX7_feed 13 = .ok (.if_icmp .le 6, 3) := by decide +kernel
theorem dX7_feed_16 : decode cX7_feed 16 = .ok (.bipush (-3), 2) := by decide +kernel
theorem dX7_feed_18 : decode cX7_feed 18 = .ok (.ireturn, 1) := by decide +kernel
theorem dX7_feed_19 : decode cX7_feed 19 = .ok (.aload_n 0, 1) := by decide +kernel
theorem dX7_feed_20 : decode cX7_feed 20 = .ok (.getfield 14, 3) := by decide +kernel
theorem dX7_feed_23 : decode cX7_feed 23 = .ok (.iload_n 1, 1) := by decide +kernel
theorem dX7_feed_24 : decode cX7_feed 24 = .ok (.invokevirtual 65, 3) := by decide +kernel
theorem dX7_feed_27 : decode cX7_feed 27 = .ok (.aload_n 0, 1) := by decide +kernel
theorem dX7_feed_28 : decode cX7_feed 28 = .ok (.getfield 14, 3) := by decide +kernel
theorem dX7_feed_31 : decode cX7_feed 31 = .ok (.iload_n 2, 1) := by decide +kernel
theorem dX7_feed_32 : decode cX7_feed 32 = .ok (.invokevirtual 65, 3) := by decide +kernel
theorem dX7_feed_35 : decode cX7_feed 35 = .ok (.aload_n 0, 1) := by decide +kernel
theorem dX7_feed_36 : decode cX7_feed 36 = .ok (.getfield 14, 3) := by decide +kernel
theorem dX7_feed_39 : decode cX7_feed 39 = .ok (.iload_n 3, 1) := by decide +kernel
theorem dX7_feed_40 : decode cX7_feed 40 = .ok (.invokevirtual 65, 3) := by decide +kernel
theorem dX7_feed_43 : decode cX7_feed 43 = .ok (.aload_n 0, 1) := by decide +kernel
theorem dX7_feed_44 : decode cX7_feed 44 = .ok (.getfield 14, 3) := by decide +kernel
theorem dX7_feed_47 : decode cX7_feed 47 = .ok (.iload 4, 2) := by decide +kernel
theorem dX7_feed_49 : decode cX7_feed 49 = .ok (.invokevirtual 65, 3) := by decide +kernel
theorem dX7_feed_52 : decode cX7_feed 52 = .ok (.aload_n 0, 1) := by decide +kernel
theorem dX7_feed_53 : decode cX7_feed 53 = .ok (.getfield 14, 3) := by decide +kernel
theorem dX7_feed_56 : decode cX7_feed 56 = .ok (.iload 5, 2) := by decide +kernel
theorem dX7_feed_58 : decode cX7_feed 58 = .ok (.invokevirtual 65, 3) := by decide +kernel
theorem dX7_feed_61 : decode cX7_feed 61 = .ok (.aload_n 0, 1) := by decide +kernel
theorem dX7_feed_62 : decode cX7_feed 62 = .ok (.getfield 14, 3) := by decide +kernel
theorem dX7_feed_65 : decode cX7_feed 65 = .ok (.getfield 62, 3) := by decide +kernel
theorem dX7_feed_68 : decode cX7_feed 68 = .ok (.ireturn, 1) := by decide +kernel
theorem dX7_errorPosition_0 : decode cX7_errorPosition 0 = .ok (.aload_n 0, 1) := by decide +kernel
theorem dX7_errorPosition_1 : decode cX7_errorPosition 1 = .ok (.getfield 58, 3) := by decide +kernel
theorem dX7_errorPosition_4 : decode cX7_errorPosition 4 = .ok (.ireturn, 1) := by decide +kernel
theorem dX7_levelCount_0 : decode cX7_levelCount 0 = .ok (.aload_n 0, 1) := by decide +kernel
theorem dX7_levelCount_1 : decode cX7_levelCount 1 = .ok (.getfield 51, 3) := by decide +kernel
theorem dX7_levelCount_4 : decode cX7_levelCount 4 = .ok (.getfield 83, 3) := by decide +kernel
theorem dX7_levelCount_7 : decode cX7_levelCount 7 = .ok (.ireturn, 1) := by decide +kernel
theorem dX7_pointCount_0 : decode cX7_pointCount 0 = .ok (.aload_n 0, 1) := by decide +kernel
theorem dX7_pointCount_1 : decode cX7_pointCount 1 = .ok (.getfield 51, 3) := by decide +kernel
theorem dX7_pointCount_4 : decode cX7_pointCount 4 = .ok (.getfield 86, 3) := by decide +kernel
theorem dX7_pointCount_7 : decode cX7_pointCount 7 = .ok (.ireturn, 1) := by decide +kernel
theorem dX7_lineCount_0 : decode cX7_lineCount 0 = .ok (.aload_n 0, 1) := by decide +kernel
theorem dX7_lineCount_1 : decode cX7_lineCount 1 = .ok (.getfield 51, 3) := by decide +kernel
theorem dX7_lineCount_4 : decode cX7_lineCount 4 = .ok (.getfield 89, 3) := by decide +kernel
theorem dX7_lineCount_7 : decode cX7_lineCount 7 = .ok (.ireturn, 1) := by decide +kernel
theorem dX7_testCount_0 : decode cX7_testCount 0 = .ok (.aload_n 0, 1) := by decide +kernel
theorem dX7_testCount_1 : decode cX7_testCount 1 = .ok (.getfield 51, 3) := by decide +kernel
theorem dX7_testCount_4 : decode cX7_testCount 4 = .ok (.getfield 92, 3) := by decide +kernel
theorem dX7_testCount_7 : decode cX7_testCount 7 = .ok (.ireturn, 1) := by decide +kernel
theorem dX7_undoCount_0 : decode cX7_undoCount 0 = .ok (.aload_n 0, 1) := by decide +kernel
theorem dX7_undoCount_1 : decode cX7_undoCount 1 = .ok (.getfield 44, 3) := by decide +kernel
theorem dX7_undoCount_4 : decode cX7_undoCount 4 = .ok (.getfield 80, 3) := by decide +kernel
theorem dX7_undoCount_7 : decode cX7_undoCount 7 = .ok (.ireturn, 1) := by decide +kernel
theorem dX7_levelNamed_0 : decode cX7_levelNamed 0 = .ok (.aload_n 0, 1) := by decide +kernel
theorem dX7_levelNamed_1 : decode cX7_levelNamed 1 = .ok (.getfield 51, 3) := by decide +kernel
theorem dX7_levelNamed_4 : decode cX7_levelNamed 4 = .ok (.iload_n 1, 1) := by decide +kernel
theorem dX7_levelNamed_5 : decode cX7_levelNamed 5 = .ok (.invokevirtual 95, 3) := by decide +kernel
theorem dX7_levelNamed_8 : decode cX7_levelNamed 8 = .ok (.ireturn, 1) := by decide +kernel
theorem dX7_pointNamed_0 : decode cX7_pointNamed 0 = .ok (.aload_n 0, 1) := by decide +kernel
theorem dX7_pointNamed_1 : decode cX7_pointNamed 1 = .ok (.getfield 51, 3) := by decide +kernel
theorem dX7_pointNamed_4 : decode cX7_pointNamed 4 = .ok (.iload_n 1, 1) := by decide +kernel
theorem dX7_pointNamed_5 : decode cX7_pointNamed 5 = .ok (.invokevirtual 99, 3) := by decide +kernel
theorem dX7_pointNamed_8 : decode cX7_pointNamed 8 = .ok (.ireturn, 1) := by decide +kernel
theorem dX7_getSetting_0 : decode cX7_getSetting 0 = .ok (.iload_n 1, 1) := by decide +kernel
theorem dX7_getSetting_1 : decode cX7_getSetting 1 = .ok (.iconst 3, 1) := by decide +kernel
theorem dX7_getSetting_2 : decode cX7_getSetting 2 = .ok (.invokestatic 102, 3) := by decide +kernel
theorem dX7_getSetting_5 : decode cX7_getSetting 5 = .ok (.ifCond .ne 6, 3) := by decide +kernel
theorem dX7_getSetting_8 : decode cX7_getSetting 8 = .ok (.bipush (-2), 2) := by decide +kernel
theorem dX7_getSetting_10 : decode cX7_getSetting 10 = .ok (.ireturn, 1) := by decide +kernel
theorem dX7_getSetting_11 : decode cX7_getSetting 11 = .ok (.aload_n 0, 1) := by decide +kernel
theorem dX7_getSetting_12 : decode cX7_getSetting 12 = .ok (.getfield 51, 3) := by decide +kernel
theorem dX7_getSetting_15 : decode cX7_getSetting 15 = .ok (.getfield 106, 3) := by decide +kernel
theorem dX7_getSetting_18 : decode cX7_getSetting 18 = .ok (.iload_n 1, 1) := by decide +kernel
theorem dX7_getSetting_19 : decode cX7_getSetting 19 = .ok (.iaload, 1) := by decide +kernel
theorem dX7_getSetting_20 : decode cX7_getSetting 20 = .ok (.ireturn, 1) := by decide +kernel
theorem dX7_needIndex_0 : decode cX7_needIndex 0 = .ok (.iload_n 0, 1) := by decide +kernel
theorem dX7_needIndex_1 : decode cX7_needIndex 1 = .ok (.iload_n 1, 1) := by decide +kernel
theorem dX7_needIndex_2 : decode cX7_needIndex 2 = .ok (.invokestatic 102, 3) := by decide +kernel
theorem dX7_needIndex_5 : decode cX7_needIndex 5 = .ok (.ifCond .ne 14, 3) := by decide +kernel
theorem dX7_needIndex_8 : decode cX7_needIndex 8 = .ok (.new 328, 3) := by decide +kernel
theorem dX7_needIndex_11 : decode cX7_needIndex 11 = .ok (.dup, 1) := by decide +kernel
theorem dX7_needIndex_12 : decode cX7_needIndex 12 = .ok (.ldc_w 330, 3) := by decide +kernel
theorem dX7_needIndex_15 : decode cX7_needIndex 15 = .ok (.invokespecial 332, 3) := by decide +kernel
theorem dX7_needIndex_18 : decode cX7_needIndex 18 = .ok (.athrow, 1) := by decide +kernel
theorem dX7_needIndex_19 : decode cX7_needIndex 19 = .ok (.return_, 1) := by decide +kernel
theorem dX7_collimation_0 : decode cX7_collimation 0 = .ok (.iload_n 1, 1) := by decide +kernel
theorem dX7_collimation_1 : decode cX7_collimation 1 = .ok (.aload_n 0, 1) := by decide +kernel
theorem dX7_collimation_2 : decode cX7_collimation 2 = .ok (.getfield 51, 3) := by decide +kernel
theorem dX7_collimation_5 : decode cX7_collimation 5 = .ok (.getfield 83, 3) := by decide +kernel
theorem dX7_collimation_8 : decode cX7_collimation 8 = .ok (.invokestatic 110, 3) := by decide +kernel
theorem dX7_collimation_11 : decode cX7_collimation 11 = .ok (.aload_n 0, 1) := by decide +kernel
theorem dX7_collimation_12 : decode cX7_collimation 12 = .ok (.getfield 51, 3) := by decide +kernel
theorem dX7_collimation_15 : decode cX7_collimation 15 = .ok (.getfield 114, 3) := by decide +kernel
theorem dX7_collimation_18 : decode cX7_collimation 18 = .ok (.iload_n 1, 1) := by decide +kernel
theorem dX7_collimation_19 : decode cX7_collimation 19 = .ok (.iaload, 1) := by decide +kernel
theorem dX7_collimation_20 : decode cX7_collimation 20 = .ok (.ireturn, 1) := by decide +kernel
theorem dX7_testNumber_0 : decode cX7_testNumber 0 = .ok (.iload_n 1, 1) := by decide +kernel
theorem dX7_testNumber_1 : decode cX7_testNumber 1 = .ok (.aload_n 0, 1) := by decide +kernel
theorem dX7_testNumber_2 : decode cX7_testNumber 2 = .ok (.getfield 51, 3) := by decide +kernel
theorem dX7_testNumber_5 : decode cX7_testNumber 5 = .ok (.getfield 92, 3) := by decide +kernel
theorem dX7_testNumber_8 : decode cX7_testNumber 8 = .ok (.invokestatic 110, 3) := by decide +kernel
theorem dX7_testNumber_11 : decode cX7_testNumber 11 = .ok (.iload_n 2, 1) := by decide +kernel
theorem dX7_testNumber_12 : decode cX7_testNumber 12 = .ok (.tableswitch 56 0 2 #[28, 38, 47], 28) := by decide +kernel
theorem dX7_testNumber_40 : decode cX7_testNumber 40 = .ok (.aload_n 0, 1) := by decide +kernel
theorem dX7_testNumber_41 : decode cX7_testNumber 41 = .ok (.getfield 51, 3) := by decide +kernel
theorem dX7_testNumber_44 : decode cX7_testNumber 44 = .ok (.getfield 117, 3) := by decide +kernel
theorem dX7_testNumber_47 : decode cX7_testNumber 47 = .ok (.iload_n 1, 1) := by decide +kernel
theorem dX7_testNumber_48 : decode cX7_testNumber 48 = .ok (.iaload, 1) := by decide +kernel
theorem dX7_testNumber_49 : decode cX7_testNumber 49 = .ok (.ireturn, 1) := by decide +kernel
theorem dX7_testNumber_50 : decode cX7_testNumber 50 = .ok (.aload_n 0, 1) := by decide +kernel
theorem dX7_testNumber_51 : decode cX7_testNumber 51 = .ok (.getfield 51, 3) := by decide +kernel
theorem dX7_testNumber_54 : decode cX7_testNumber 54 = .ok (.iload_n 1, 1) := by decide +kernel
theorem dX7_testNumber_55 : decode cX7_testNumber 55 = .ok (.invokevirtual 120, 3) := by decide +kernel
theorem dX7_testNumber_58 : decode cX7_testNumber 58 = .ok (.ireturn, 1) := by decide +kernel
theorem dX7_testNumber_59 : decode cX7_testNumber 59 = .ok (.aload_n 0, 1) := by decide +kernel
theorem dX7_testNumber_60 : decode cX7_testNumber 60 = .ok (.getfield 51, 3) := by decide +kernel
theorem dX7_testNumber_63 : decode cX7_testNumber 63 = .ok (.iload_n 1, 1) := by decide +kernel
theorem dX7_testNumber_64 : decode cX7_testNumber 64 = .ok (.invokevirtual 123, 3) := by decide +kernel
theorem dX7_testNumber_67 : decode cX7_testNumber 67 = .ok (.ireturn, 1) := by decide +kernel
theorem dX7_testNumber_68 : decode cX7_testNumber 68 = .ok (.ldc 126, 2) := by decide +kernel
theorem dX7_testNumber_70 : decode cX7_testNumber 70 = .ok (.ireturn, 1) := by decide +kernel
theorem dX7_heldAt_0 : decode cX7_heldAt 0 = .ok (.iload_n 1, 1) := by decide +kernel
theorem dX7_heldAt_1 : decode cX7_heldAt 1 = .ok (.aload_n 0, 1) := by decide +kernel
theorem dX7_heldAt_2 : decode cX7_heldAt 2 = .ok (.getfield 51, 3) := by decide +kernel
theorem dX7_heldAt_5 : decode cX7_heldAt 5 = .ok (.getfield 86, 3) := by decide +kernel
theorem dX7_heldAt_8 : decode cX7_heldAt 8 = .ok (.invokestatic 110, 3) := by decide +kernel
theorem dX7_heldAt_11 : decode cX7_heldAt 11 = .ok (.aload_n 0, 1) := by decide +kernel
theorem dX7_heldAt_12 : decode cX7_heldAt 12 = .ok (.getfield 51, 3) := by decide +kernel
theorem dX7_heldAt_15 : decode cX7_heldAt 15 = .ok (.getfield 127, 3) := by decide +kernel
theorem dX7_heldAt_18 : decode cX7_heldAt 18 = .ok (.iload_n 1, 1) := by decide +kernel
theorem dX7_heldAt_19 : decode cX7_heldAt 19 = .ok (.iaload, 1) := by decide +kernel
theorem dX7_heldAt_20 : decode cX7_heldAt 20 = .ok (.ireturn, 1) := by decide +kernel
theorem dX7_lineProperty_0 : decode cX7_lineProperty 0 = .ok (.iload_n 1, 1) := by decide +kernel
theorem dX7_lineProperty_1 : decode cX7_lineProperty 1 = .ok (.aload_n 0, 1) := by decide +kernel
theorem dX7_lineProperty_2 : decode cX7_lineProperty 2 = .ok (.getfield 51, 3) := by decide +kernel
theorem dX7_lineProperty_5 : decode cX7_lineProperty 5 = .ok (.getfield 89, 3) := by decide +kernel
theorem dX7_lineProperty_8 : decode cX7_lineProperty 8 = .ok (.invokestatic 110, 3) := by decide +kernel
theorem dX7_lineProperty_11 : decode cX7_lineProperty 11 = .ok (.iload_n 2, 1) := by decide +kernel
theorem dX7_lineProperty_12 : decode cX7_lineProperty 12 = .ok (.tableswitch 119 0 6 #[44, 54, 64, 74, 84, 101, 110], 44) := by decide +kernel
theorem dX7_lineProperty_56 : decode cX7_lineProperty 56 = .ok (.aload_n 0, 1) := by decide +kernel
theorem dX7_lineProperty_57 : decode cX7_lineProperty 57 = .ok (.getfield 51, 3) := by decide +kernel
theorem dX7_lineProperty_60 : decode cX7_lineProperty 60 = .ok (.getfield 130, 3) := by decide +kernel
theorem dX7_lineProperty_63 : decode cX7_lineProperty 63 = .ok (.iload_n 1, 1) := by decide +kernel
theorem dX7_lineProperty_64 : decode cX7_lineProperty 64 = .ok (.iaload, 1) := by decide +kernel
theorem dX7_lineProperty_65 : decode cX7_lineProperty 65 = .ok (.ireturn, 1) := by decide +kernel
theorem dX7_lineProperty_66 : decode cX7_lineProperty 66 = .ok (.aload_n 0, 1) := by decide +kernel
theorem dX7_lineProperty_67 : decode cX7_lineProperty 67 = .ok (.getfield 51, 3) := by decide +kernel
theorem dX7_lineProperty_70 : decode cX7_lineProperty 70 = .ok (.getfield 133, 3) := by decide +kernel
theorem dX7_lineProperty_73 : decode cX7_lineProperty 73 = .ok (.iload_n 1, 1) := by decide +kernel
theorem dX7_lineProperty_74 : decode cX7_lineProperty 74 = .ok (.iaload, 1) := by decide +kernel
theorem dX7_lineProperty_75 : decode cX7_lineProperty 75 = .ok (.ireturn, 1) := by decide +kernel
theorem dX7_lineProperty_76 : decode cX7_lineProperty 76 = .ok (.aload_n 0, 1) := by decide +kernel
theorem dX7_lineProperty_77 : decode cX7_lineProperty 77 = .ok (.getfield 51, 3) := by decide +kernel
theorem dX7_lineProperty_80 : decode cX7_lineProperty 80 = .ok (.getfield 136, 3) := by decide +kernel
theorem dX7_lineProperty_83 : decode cX7_lineProperty 83 = .ok (.iload_n 1, 1) := by decide +kernel
theorem dX7_lineProperty_84 : decode cX7_lineProperty 84 = .ok (.iaload, 1) := by decide +kernel
theorem dX7_lineProperty_85 : decode cX7_lineProperty 85 = .ok (.ireturn, 1) := by decide +kernel
theorem dX7_lineProperty_86 : decode cX7_lineProperty 86 = .ok (.aload_n 0, 1) := by decide +kernel
theorem dX7_lineProperty_87 : decode cX7_lineProperty 87 = .ok (.getfield 51, 3) := by decide +kernel
theorem dX7_lineProperty_90 : decode cX7_lineProperty 90 = .ok (.getfield 139, 3) := by decide +kernel
theorem dX7_lineProperty_93 : decode cX7_lineProperty 93 = .ok (.iload_n 1, 1) := by decide +kernel
theorem dX7_lineProperty_94 : decode cX7_lineProperty 94 = .ok (.iaload, 1) := by decide +kernel
theorem dX7_lineProperty_95 : decode cX7_lineProperty 95 = .ok (.ireturn, 1) := by decide +kernel
theorem dX7_lineProperty_96 : decode cX7_lineProperty 96 = .ok (.aload_n 0, 1) := by decide +kernel
theorem dX7_lineProperty_97 : decode cX7_lineProperty 97 = .ok (.getfield 51, 3) := by decide +kernel
theorem dX7_lineProperty_100 : decode cX7_lineProperty 100 = .ok (.iload_n 1, 1) := by decide +kernel
theorem dX7_lineProperty_101 : decode cX7_lineProperty 101 = .ok (.invokevirtual 142, 3) := by decide +kernel
theorem dX7_lineProperty_104 : decode cX7_lineProperty 104 = .ok (.ifCond .eq 7, 3) := by decide +kernel
theorem dX7_lineProperty_107 : decode cX7_lineProperty 107 = .ok (.iconst 1, 1) := by decide +kernel
theorem dX7_lineProperty_108 : decode cX7_lineProperty 108 = .ok (.goto 4, 3) := by decide +kernel
theorem dX7_lineProperty_111 : decode cX7_lineProperty 111 = .ok (.iconst 0, 1) := by decide +kernel
theorem dX7_lineProperty_112 : decode cX7_lineProperty 112 = .ok (.ireturn, 1) := by decide +kernel
theorem dX7_lineProperty_113 : decode cX7_lineProperty 113 = .ok (.aload_n 0, 1) := by decide +kernel
theorem dX7_lineProperty_114 : decode cX7_lineProperty 114 = .ok (.getfield 51, 3) := by decide +kernel
theorem dX7_lineProperty_117 : decode cX7_lineProperty 117 = .ok (.iload_n 1, 1) := by decide +kernel
theorem dX7_lineProperty_118 : decode cX7_lineProperty 118 = .ok (.invokevirtual 146, 3) := by decide +kernel
theorem dX7_lineProperty_121 : decode cX7_lineProperty 121 = .ok (.ireturn, 1) := by decide +kernel
theorem dX7_lineProperty_122 : decode cX7_lineProperty 122 = .ok (.aload_n 0, 1) := by decide +kernel
theorem dX7_lineProperty_123 : decode cX7_lineProperty 123 = .ok (.getfield 51, 3) := by decide +kernel
theorem dX7_lineProperty_126 : decode cX7_lineProperty 126 = .ok (.iload_n 1, 1) := by decide +kernel
theorem dX7_lineProperty_127 : decode cX7_lineProperty 127 = .ok (.invokevirtual 149, 3) := by decide +kernel
theorem dX7_lineProperty_130 : decode cX7_lineProperty 130 = .ok (.ireturn, 1) := by decide +kernel
theorem dX7_lineProperty_131 : decode cX7_lineProperty 131 = .ok (.bipush (-2), 2) := by decide +kernel
theorem dX7_lineProperty_133 : decode cX7_lineProperty 133 = .ok (.ireturn, 1) := by decide +kernel
theorem dX7_reading_0 : decode cX7_reading 0 = .ok (.iload_n 1, 1) := by decide +kernel
theorem dX7_reading_1 : decode cX7_reading 1 = .ok (.aload_n 0, 1) := by decide +kernel
theorem dX7_reading_2 : decode cX7_reading 2 = .ok (.getfield 51, 3) := by decide +kernel
theorem dX7_reading_5 : decode cX7_reading 5 = .ok (.getfield 89, 3) := by decide +kernel
theorem dX7_reading_8 : decode cX7_reading 8 = .ok (.invokestatic 110, 3) := by decide +kernel
theorem dX7_reading_11 : decode cX7_reading 11 = .ok (.aload_n 0, 1) := by decide +kernel
theorem dX7_reading_12 : decode cX7_reading 12 = .ok (.getfield 51, 3) := by decide +kernel
theorem dX7_reading_15 : decode cX7_reading 15 = .ok (.iload_n 1, 1) := by decide +kernel
theorem dX7_reading_16 : decode cX7_reading 16 = .ok (.iload_n 2, 1) := by decide +kernel
theorem dX7_reading_17 : decode cX7_reading 17 = .ok (.invokevirtual 152, 3) := by decide +kernel
theorem dX7_reading_20 : decode cX7_reading 20 = .ok (.ifCond .ne 5, 3) := by decide +kernel
theorem dX7_reading_23 : decode cX7_reading 23 = .ok (.iconst (-1), 1) := by decide +kernel
theorem dX7_reading_24 : decode cX7_reading 24 = .ok (.ireturn, 1) := by decide +kernel
theorem dX7_reading_25 : decode cX7_reading 25 = .ok (.iload_n 3, 1) := by decide +kernel
theorem dX7_reading_26 : decode cX7_reading 26 = .ok (.iconst 4, 1) := by decide +kernel
theorem dX7_reading_27 : decode cX7_reading 27 = .ok (.invokestatic 102, 3) := by decide +kernel
theorem dX7_reading_30 : decode cX7_reading 30 = .ok (.ifCond .ne 6, 3) := by decide +kernel
theorem dX7_reading_33 : decode cX7_reading 33 = .ok (.bipush (-2), 2) := by decide +kernel
theorem dX7_reading_35 : decode cX7_reading 35 = .ok (.ireturn, 1) := by decide +kernel
theorem dX7_reading_36 : decode cX7_reading 36 = .ok (.aload_n 0, 1) := by decide +kernel
theorem dX7_reading_37 : decode cX7_reading 37 = .ok (.getfield 51, 3) := by decide +kernel
theorem dX7_reading_40 : decode cX7_reading 40 = .ok (.getfield 155, 3) := by decide +kernel
theorem dX7_reading_43 : decode cX7_reading 43 = .ok (.aload_n 0, 1) := by decide +kernel
theorem dX7_reading_44 : decode cX7_reading 44 = .ok (.getfield 51, 3) := by decide +kernel
theorem dX7_reading_47 : decode cX7_reading 47 = .ok (.iload_n 1, 1) := by decide +kernel
theorem dX7_reading_48 : decode cX7_reading 48 = .ok (.iload_n 2, 1) := by decide +kernel
theorem dX7_reading_49 : decode cX7_reading 49 = .ok (.invokevirtual 158, 3) := by decide +kernel
theorem dX7_reading_52 : decode cX7_reading 52 = .ok (.iload_n 3, 1) := by decide +kernel
theorem dX7_reading_53 : decode cX7_reading 53 = .ok (.iadd, 1) := by decide +kernel
theorem dX7_reading_54 : decode cX7_reading 54 = .ok (.iaload, 1) := by decide +kernel
theorem dX7_reading_55 : decode cX7_reading 55 = .ok (.ireturn, 1) := by decide +kernel
theorem dX7_stepOf_0 : decode cX7_stepOf 0 = .ok (.iload_n 1, 1) := by decide +kernel
theorem dX7_stepOf_1 : decode cX7_stepOf 1 = .ok (.aload_n 0, 1) := by decide +kernel
theorem dX7_stepOf_2 : decode cX7_stepOf 2 = .ok (.getfield 51, 3) := by decide +kernel
theorem dX7_stepOf_5 : decode cX7_stepOf 5 = .ok (.getfield 89, 3) := by decide +kernel
theorem dX7_stepOf_8 : decode cX7_stepOf 8 = .ok (.invokestatic 110, 3) := by decide +kernel
theorem dX7_stepOf_11 : decode cX7_stepOf 11 = .ok (.aload_n 0, 1) := by decide +kernel
theorem dX7_stepOf_12 : decode cX7_stepOf 12 = .ok (.getfield 51, 3) := by decide +kernel
theorem dX7_stepOf_15 : decode cX7_stepOf 15 = .ok (.iload_n 1, 1) := by decide +kernel
theorem dX7_stepOf_16 : decode cX7_stepOf 16 = .ok (.iload_n 2, 1) := by decide +kernel
theorem dX7_stepOf_17 : decode cX7_stepOf 17 = .ok (.invokevirtual 152, 3) := by decide +kernel
theorem dX7_stepOf_20 : decode cX7_stepOf 20 = .ok (.ifCond .ne 6, 3) := by decide +kernel
theorem dX7_stepOf_23 : decode cX7_stepOf 23 = .ok (.ldc 126, 2) := by decide +kernel
theorem dX7_stepOf_25 : decode cX7_stepOf 25 = .ok (.ireturn, 1) := by decide +kernel
theorem dX7_stepOf_26 : decode cX7_stepOf 26 = .ok (.aload_n 0, 1) := by decide +kernel
theorem dX7_stepOf_27 : decode cX7_stepOf 27 = .ok (.getfield 51, 3) := by decide +kernel
theorem dX7_stepOf_30 : decode cX7_stepOf 30 = .ok (.iload_n 1, 1) := by decide +kernel
theorem dX7_stepOf_31 : decode cX7_stepOf 31 = .ok (.iload_n 2, 1) := by decide +kernel
theorem dX7_stepOf_32 : decode cX7_stepOf 32 = .ok (.invokevirtual 162, 3) := by decide +kernel
theorem dX7_stepOf_35 : decode cX7_stepOf 35 = .ok (.ireturn, 1) := by decide +kernel
theorem dX7_riseOf_0 : decode cX7_riseOf 0 = .ok (.iload_n 1, 1) := by decide +kernel
theorem dX7_riseOf_1 : decode cX7_riseOf 1 = .ok (.aload_n 0, 1) := by decide +kernel
theorem dX7_riseOf_2 : decode cX7_riseOf 2 = .ok (.getfield 51, 3) := by decide +kernel
theorem dX7_riseOf_5 : decode cX7_riseOf 5 = .ok (.getfield 89, 3) := by decide +kernel
theorem dX7_riseOf_8 : decode cX7_riseOf 8 = .ok (.invokestatic 110, 3) := by decide +kernel
theorem dX7_riseOf_11 : decode cX7_riseOf 11 = .ok (.aload_n 0, 1) := by decide +kernel
theorem dX7_riseOf_12 : decode cX7_riseOf 12 = .ok (.getfield 51, 3) := by decide +kernel
theorem dX7_riseOf_15 : decode cX7_riseOf 15 = .ok (.iload_n 1, 1) := by decide +kernel
theorem dX7_riseOf_16 : decode cX7_riseOf 16 = .ok (.invokevirtual 165, 3) := by decide +kernel
theorem dX7_riseOf_19 : decode cX7_riseOf 19 = .ok (.ireturn, 1) := by decide +kernel
theorem dX7_collimationEffect_0 : decode cX7_collimationEffect 0 = .ok (.iload_n 1, 1) := by decide +kernel
theorem dX7_collimationEffect_1 : decode cX7_collimationEffect 1 = .ok (.aload_n 0, 1) := by decide +kernel
theorem dX7_collimationEffect_2 : decode cX7_collimationEffect 2 = .ok (.getfield 51, 3) := by decide +kernel
theorem dX7_collimationEffect_5 : decode cX7_collimationEffect 5 = .ok (.getfield 89, 3) := by decide +kernel
theorem dX7_collimationEffect_8 : decode cX7_collimationEffect 8 = .ok (.invokestatic 110, 3) := by decide +kernel
theorem dX7_collimationEffect_11 : decode cX7_collimationEffect 11 = .ok (.aload_n 0, 1) := by decide +kernel
theorem dX7_collimationEffect_12 : decode cX7_collimationEffect 12 = .ok (.getfield 51, 3) := by decide +kernel
theorem dX7_collimationEffect_15 : decode cX7_collimationEffect 15 = .ok (.getfield 114, 3) := by decide +kernel
theorem dX7_collimationEffect_18 : decode cX7_collimationEffect 18 = .ok (.aload_n 0, 1) := by decide +kernel
theorem dX7_collimationEffect_19 : decode cX7_collimationEffect 19 = .ok (.getfield 51, 3) := by decide +kernel
theorem dX7_collimationEffect_22 : decode cX7_collimationEffect 22 = .ok (.getfield 136, 3) := by decide +kernel
theorem dX7_collimationEffect_25 : decode cX7_collimationEffect 25 = .ok (.iload_n 1, 1) := by decide +kernel
theorem dX7_collimationEffect_26 : decode cX7_collimationEffect 26 = .ok (.iaload, 1) := by decide +kernel
theorem dX7_collimationEffect_27 : decode cX7_collimationEffect 27 = .ok (.iaload, 1) := by decide +kernel
theorem dX7_collimationEffect_28 : decode cX7_collimationEffect 28 = .ok (.ineg, 1) := by decide +kernel
theorem dX7_collimationEffect_29 : decode cX7_collimationEffect 29 = .ok (.aload_n 0, 1) := by decide +kernel
theorem dX7_collimationEffect_30 : decode cX7_collimationEffect 30 = .ok (.getfield 51, 3) := by decide +kernel
theorem dX7_collimationEffect_33 : decode cX7_collimationEffect 33 = .ok (.iload_n 1, 1) := by decide +kernel
theorem dX7_collimationEffect_34 : decode cX7_collimationEffect 34 = .ok (.invokevirtual 168, 3) := by decide +kernel
theorem dX7_collimationEffect_37 : decode cX7_collimationEffect 37 = .ok (.imul, 1) := by decide +kernel
theorem dX7_collimationEffect_38 : decode cX7_collimationEffect 38 = .ok (.ireturn, 1) := by decide +kernel
theorem dX7_imbalance_0 : decode cX7_imbalance 0 = .ok (.iload_n 1, 1) := by decide +kernel
theorem dX7_imbalance_1 : decode cX7_imbalance 1 = .ok (.aload_n 0, 1) := by decide +kernel
theorem dX7_imbalance_2 : decode cX7_imbalance 2 = .ok (.getfield 51, 3) := by decide +kernel
theorem dX7_imbalance_5 : decode cX7_imbalance 5 = .ok (.getfield 89, 3) := by decide +kernel
theorem dX7_imbalance_8 : decode cX7_imbalance 8 = .ok (.invokestatic 110, 3) := by decide +kernel
theorem dX7_imbalance_11 : decode cX7_imbalance 11 = .ok (.aload_n 0, 1) := by decide +kernel
theorem dX7_imbalance_12 : decode cX7_imbalance 12 = .ok (.getfield 51, 3) := by decide +kernel
theorem dX7_imbalance_15 : decode cX7_imbalance 15 = .ok (.iload_n 1, 1) := by decide +kernel
theorem dX7_imbalance_16 : decode cX7_imbalance 16 = .ok (.invokevirtual 168, 3) := by decide +kernel
theorem dX7_imbalance_19 : decode cX7_imbalance 19 = .ok (.ireturn, 1) := by decide +kernel
theorem dX7_faultsOf_0 : decode cX7_faultsOf 0 = .ok (.iload_n 1, 1) := by decide +kernel
theorem dX7_faultsOf_1 : decode cX7_faultsOf 1 = .ok (.aload_n 0, 1) := by decide +kernel
theorem dX7_faultsOf_2 : decode cX7_faultsOf 2 = .ok (.getfield 51, 3) := by decide +kernel
theorem dX7_faultsOf_5 : decode cX7_faultsOf 5 = .ok (.getfield 89, 3) := by decide +kernel
theorem dX7_faultsOf_8 : decode cX7_faultsOf 8 = .ok (.invokestatic 110, 3) := by decide +kernel
theorem dX7_faultsOf_11 : decode cX7_faultsOf 11 = .ok (.aload_n 0, 1) := by decide +kernel
theorem dX7_faultsOf_12 : decode cX7_faultsOf 12 = .ok (.getfield 51, 3) := by decide +kernel
theorem dX7_faultsOf_15 : decode cX7_faultsOf 15 = .ok (.iload_n 1, 1) := by decide +kernel
theorem dX7_faultsOf_16 : decode cX7_faultsOf 16 = .ok (.invokevirtual 171, 3) := by decide +kernel
theorem dX7_faultsOf_19 : decode cX7_faultsOf 19 = .ok (.istore_n 2, 1) := by decide +kernel
theorem dX7_faultsOf_20 : decode cX7_faultsOf 20 = .ok (.aload_n 0, 1) := by decide +kernel
theorem dX7_faultsOf_21 : decode cX7_faultsOf 21 = .ok (.getfield 51, 3) := by decide +kernel
theorem dX7_faultsOf_24 : decode cX7_faultsOf 24 = .ok (.iload_n 1, 1) := by decide +kernel
theorem dX7_faultsOf_25 : decode cX7_faultsOf 25 = .ok (.invokevirtual 168, 3) := by decide +kernel
theorem dX7_faultsOf_28 : decode cX7_faultsOf 28 = .ok (.invokestatic 174, 3) := by decide +kernel
theorem dX7_faultsOf_31 : decode cX7_faultsOf 31 = .ok (.aload_n 0, 1) := by decide +kernel
theorem dX7_faultsOf_32 : decode cX7_faultsOf 32 = .ok (.getfield 51, 3) := by decide +kernel
theorem dX7_faultsOf_35 : decode cX7_faultsOf 35 = .ok (.getfield 106, 3) := by decide +kernel
theorem dX7_faultsOf_38 : decode cX7_faultsOf 38 = .ok (.iconst 2, 1) := by decide +kernel
theorem dX7_faultsOf_39 : decode cX7_faultsOf 39 = .ok (.iaload, 1) := by decide +kernel
theorem dX7_faultsOf_40 : decode cX7_faultsOf 40 = .ok (.if_icmp .le 9, 3) := by decide +kernel
theorem dX7_faultsOf_43 : decode cX7_faultsOf 43 = .ok (.iinc 2 1000, 6) := by decide +kernel
theorem dX7_faultsOf_49 : decode cX7_faultsOf 49 = .ok (.iload_n 2, 1) := by decide +kernel
theorem dX7_faultsOf_50 : decode cX7_faultsOf 50 = .ok (.ireturn, 1) := by decide +kernel
theorem dX7_turningHeight_0 : decode cX7_turningHeight 0 = .ok (.iload_n 1, 1) := by decide +kernel
theorem dX7_turningHeight_1 : decode cX7_turningHeight 1 = .ok (.aload_n 0, 1) := by decide +kernel
theorem dX7_turningHeight_2 : decode cX7_turningHeight 2 = .ok (.getfield 51, 3) := by decide +kernel
theorem dX7_turningHeight_5 : decode cX7_turningHeight 5 = .ok (.getfield 89, 3) := by decide +kernel
theorem dX7_turningHeight_8 : decode cX7_turningHeight 8 = .ok (.invokestatic 110, 3) := by decide +kernel
theorem dX7_turningHeight_11 : decode cX7_turningHeight 11 = .ok (.aload_n 0, 1) := by decide +kernel
theorem dX7_turningHeight_12 : decode cX7_turningHeight 12 = .ok (.getfield 51, 3) := by decide +kernel
theorem dX7_turningHeight_15 : decode cX7_turningHeight 15 = .ok (.iload_n 1, 1) := by decide +kernel
theorem dX7_turningHeight_16 : decode cX7_turningHeight 16 = .ok (.iload_n 2, 1) := by decide +kernel
theorem dX7_turningHeight_17 : decode cX7_turningHeight 17 = .ok (.invokevirtual 152, 3) := by decide +kernel
theorem dX7_turningHeight_20 : decode cX7_turningHeight 20 = .ok (.ifCond .ne 7, 3) := by decide +kernel
theorem dX7_turningHeight_23 : decode cX7_turningHeight 23 = .ok (.ldc2_w 179, 3) := by decide +kernel
theorem dX7_turningHeight_26 : decode cX7_turningHeight 26 = .ok (.lreturn, 1) := by decide +kernel
theorem dX7_turningHeight_27 : decode cX7_turningHeight 27 = .ok (.aload_n 0, 1) := by decide +kernel
theorem dX7_turningHeight_28 : decode cX7_turningHeight 28 = .ok (.getfield 37, 3) := by decide +kernel
theorem dX7_turningHeight_31 : decode cX7_turningHeight 31 = .ok (.aload_n 0, 1) := by decide +kernel
theorem dX7_turningHeight_32 : decode cX7_turningHeight 32 = .ok (.getfield 51, 3) := by decide +kernel
theorem dX7_turningHeight_35 : decode cX7_turningHeight 35 = .ok (.invokevirtual 181, 3) := by decide +kernel
theorem dX7_turningHeight_38 : decode cX7_turningHeight 38 = .ok (.aload_n 0, 1) := by decide +kernel
theorem dX7_turningHeight_39 : decode cX7_turningHeight 39 = .ok (.getfield 37, 3) := by decide +kernel
theorem dX7_turningHeight_42 : decode cX7_turningHeight 42 = .ok (.getfield 185, 3) := by decide +kernel
theorem dX7_turningHeight_45 : decode cX7_turningHeight 45 = .ok (.aload_n 0, 1) := by decide +kernel
theorem dX7_turningHeight_46 : decode cX7_turningHeight 46 = .ok (.getfield 51, 3) := by decide +kernel
theorem dX7_turningHeight_49 : decode cX7_turningHeight 49 = .ok (.getfield 130, 3) := by decide +kernel
theorem dX7_turningHeight_52 : decode cX7_turningHeight 52 = .ok (.iload_n 1, 1) := by decide +kernel
theorem dX7_turningHeight_53 : decode cX7_turningHeight 53 = .ok (.iaload, 1) := by decide +kernel
theorem dX7_turningHeight_54 : decode cX7_turningHeight 54 = .ok (.laload, 1) := by decide +kernel
theorem dX7_turningHeight_55 : decode cX7_turningHeight 55 = .ok (.lstore_n 3, 1) := by decide +kernel
theorem dX7_turningHeight_56 : decode cX7_turningHeight 56 = .ok (.lload_n 3, 1) := by decide +kernel
theorem dX7_turningHeight_57 : decode cX7_turningHeight 57 = .ok (.ldc2_w 179, 3) := by decide +kernel
theorem dX7_turningHeight_60 : decode cX7_turningHeight 60 = .ok (.lcmp, 1) := by decide +kernel
theorem dX7_turningHeight_61 : decode cX7_turningHeight 61 = .ok (.ifCond .ne 7, 3) := by decide +kernel
theorem dX7_turningHeight_64 : decode cX7_turningHeight 64 = .ok (.ldc2_w 179, 3) := by decide +kernel
theorem dX7_turningHeight_67 : decode cX7_turningHeight 67 = .ok (.lreturn, 1) := by decide +kernel
theorem dX7_turningHeight_68 : decode cX7_turningHeight 68 = .ok (.iconst 0, 1) := by decide +kernel
theorem dX7_turningHeight_69 : decode cX7_turningHeight 69 = .ok (.istore 5, 2) := by decide +kernel
theorem dX7_turningHeight_71 : decode cX7_turningHeight 71 = .ok (.iload 5, 2) := by decide +kernel
theorem dX7_turningHeight_73 : decode cX7_turningHeight 73 = .ok (.iload_n 2, 1) := by decide +kernel
theorem dX7_turningHeight_74 : decode cX7_turningHeight 74 = .ok (.if_icmp .gt 30, 3) := by decide +kernel
theorem dX7_turningHeight_77 : decode cX7_turningHeight 77 = .ok (.iload 5, 2) := by decide +kernel
theorem dX7_turningHeight_79 : decode cX7_turningHeight 79 = .ok (.bipush 8, 2) := by decide +kernel
theorem dX7_turningHeight_81 : decode cX7_turningHeight 81 = .ok (.if_icmp .ge 23, 3) := by decide +kernel
theorem dX7_turningHeight_84 : decode cX7_turningHeight 84 = .ok (.lload_n 3, 1) := by decide +kernel
theorem dX7_turningHeight_85 : decode cX7_turningHeight 85 = .ok (.aload_n 0, 1) := by decide +kernel
theorem dX7_turningHeight_86 : decode cX7_turningHeight 86 = .ok (.getfield 51, 3) := by decide +kernel
theorem dX7_turningHeight_89 : decode cX7_turningHeight 89 = .ok (.iload_n 1, 1) := by decide +kernel
theorem dX7_turningHeight_90 : decode cX7_turningHeight 90 = .ok (.iload 5, 2) := by decide +kernel
theorem dX7_turningHeight_92 : decode cX7_turningHeight 92 = .ok (.invokevirtual 162, 3) := by decide +kernel
theorem dX7_turningHeight_95 : decode cX7_turningHeight 95 = .ok (.i2l, 1) := by decide +kernel
theorem dX7_turningHeight_96 : decode cX7_turningHeight 96 = .ok (.ladd, 1) := by decide +kernel
theorem dX7_turningHeight_97 : decode cX7_turningHeight 97 = .ok (.lstore_n 3, 1) := by decide +kernel
theorem dX7_turningHeight_98 : decode cX7_turningHeight 98 = .ok (.iinc 5 1, 3) := by decide +kernel
theorem dX7_turningHeight_101 : decode cX7_turningHeight 101 = .ok (.goto (-30), 3) := by decide +kernel
theorem dX7_turningHeight_104 : decode cX7_turningHeight 104 = .ok (.lload_n 3, 1) := by decide +kernel
theorem dX7_turningHeight_105 : decode cX7_turningHeight 105 = .ok (.lreturn, 1) := by decide +kernel
theorem dX7_pairOf_0 : decode cX7_pairOf 0 = .ok (.iload_n 1, 1) := by decide +kernel
theorem dX7_pairOf_1 : decode cX7_pairOf 1 = .ok (.aload_n 0, 1) := by decide +kernel
theorem dX7_pairOf_2 : decode cX7_pairOf 2 = .ok (.getfield 51, 3) := by decide +kernel
theorem dX7_pairOf_5 : decode cX7_pairOf 5 = .ok (.getfield 89, 3) := by decide +kernel
theorem dX7_pairOf_8 : decode cX7_pairOf 8 = .ok (.invokestatic 110, 3) := by decide +kernel
theorem dX7_pairOf_11 : decode cX7_pairOf 11 = .ok (.aload_n 0, 1) := by decide +kernel
theorem dX7_pairOf_12 : decode cX7_pairOf 12 = .ok (.getfield 51, 3) := by decide +kernel
theorem dX7_pairOf_15 : decode cX7_pairOf 15 = .ok (.iload_n 1, 1) := by decide +kernel
theorem dX7_pairOf_16 : decode cX7_pairOf 16 = .ok (.invokevirtual 189, 3) := by decide +kernel
theorem dX7_pairOf_19 : decode cX7_pairOf 19 = .ok (.ireturn, 1) := by decide +kernel
theorem dX7_discrepancy_0 : decode cX7_discrepancy 0 = .ok (.iload_n 1, 1) := by decide +kernel
theorem dX7_discrepancy_1 : decode cX7_discrepancy 1 = .ok (.aload_n 0, 1) := by decide +kernel
theorem dX7_discrepancy_2 : decode cX7_discrepancy 2 = .ok (.getfield 51, 3) := by decide +kernel
theorem dX7_discrepancy_5 : decode cX7_discrepancy 5 = .ok (.getfield 89, 3) := by decide +kernel
theorem dX7_discrepancy_8 : decode cX7_discrepancy 8 = .ok (.invokestatic 110, 3) := by decide +kernel
theorem dX7_discrepancy_11 : decode cX7_discrepancy 11 = .ok (.aload_n 0, 1) := by decide +kernel
theorem dX7_discrepancy_12 : decode cX7_discrepancy 12 = .ok (.getfield 51, 3) := by decide +kernel
theorem dX7_discrepancy_15 : decode cX7_discrepancy 15 = .ok (.iload_n 1, 1) := by decide +kernel
theorem dX7_discrepancy_16 : decode cX7_discrepancy 16 = .ok (.invokevirtual 189, 3) := by decide +kernel
theorem dX7_discrepancy_19 : decode cX7_discrepancy 19 = .ok (.istore_n 2, 1) := by decide +kernel
theorem dX7_discrepancy_20 : decode cX7_discrepancy 20 = .ok (.iload_n 2, 1) := by decide +kernel
theorem dX7_discrepancy_21 : decode cX7_discrepancy 21 = .ok (.iconst (-1), 1) := by decide +kernel
theorem dX7_discrepancy_22 : decode cX7_discrepancy 22 = .ok (.if_icmp .ne 6, 3) := by decide +kernel
theorem dX7_discrepancy_25 : decode cX7_discrepancy 25 = .ok (.ldc 126, 2) := by decide +kernel
theorem dX7_discrepancy_27 : decode cX7_discrepancy 27 = .ok (.ireturn, 1) := by decide +kernel
theorem dX7_discrepancy_28 : decode cX7_discrepancy 28 = .ok (.aload_n 0, 1) := by decide +kernel
theorem dX7_discrepancy_29 : decode cX7_discrepancy 29 = .ok (.getfield 51, 3) := by decide +kernel
theorem dX7_discrepancy_32 : decode cX7_discrepancy 32 = .ok (.iload_n 1, 1) := by decide +kernel
theorem dX7_discrepancy_33 : decode cX7_discrepancy 33 = .ok (.invokevirtual 165, 3) := by decide +kernel
theorem dX7_discrepancy_36 : decode cX7_discrepancy 36 = .ok (.aload_n 0, 1) := by decide +kernel
theorem dX7_discrepancy_37 : decode cX7_discrepancy 37 = .ok (.getfield 51, 3) := by decide +kernel
theorem dX7_discrepancy_40 : decode cX7_discrepancy 40 = .ok (.iload_n 2, 1) := by decide +kernel
theorem dX7_discrepancy_41 : decode cX7_discrepancy 41 = .ok (.aload_n 0, 1) := by decide +kernel
theorem dX7_discrepancy_42 : decode cX7_discrepancy 42 = .ok (.getfield 51, 3) := by decide +kernel
theorem dX7_discrepancy_45 : decode cX7_discrepancy 45 = .ok (.getfield 130, 3) := by decide +kernel
theorem dX7_discrepancy_48 : decode cX7_discrepancy 48 = .ok (.iload_n 1, 1) := by decide +kernel
theorem dX7_discrepancy_49 : decode cX7_discrepancy 49 = .ok (.iaload, 1) := by decide +kernel
theorem dX7_discrepancy_50 : decode cX7_discrepancy 50 = .ok (.invokevirtual 192, 3) := by decide +kernel
theorem dX7_discrepancy_53 : decode cX7_discrepancy 53 = .ok (.isub, 1) := by decide +kernel
theorem dX7_discrepancy_54 : decode cX7_discrepancy 54 = .ok (.ireturn, 1) := by decide +kernel
theorem dX7_linesAt_0 : decode cX7_linesAt 0 = .ok (.iload_n 1, 1) := by decide +kernel
theorem dX7_linesAt_1 : decode cX7_linesAt 1 = .ok (.aload_n 0, 1) := by decide +kernel
theorem dX7_linesAt_2 : decode cX7_linesAt 2 = .ok (.getfield 51, 3) := by decide +kernel
theorem dX7_linesAt_5 : decode cX7_linesAt 5 = .ok (.getfield 86, 3) := by decide +kernel
theorem dX7_linesAt_8 : decode cX7_linesAt 8 = .ok (.invokestatic 110, 3) := by decide +kernel
theorem dX7_linesAt_11 : decode cX7_linesAt 11 = .ok (.iconst 0, 1) := by decide +kernel
theorem dX7_linesAt_12 : decode cX7_linesAt 12 = .ok (.istore_n 2, 1) := by decide +kernel
theorem dX7_linesAt_13 : decode cX7_linesAt 13 = .ok (.iconst 0, 1) := by decide +kernel
theorem dX7_linesAt_14 : decode cX7_linesAt 14 = .ok (.istore_n 3, 1) := by decide +kernel
theorem dX7_linesAt_15 : decode cX7_linesAt 15 = .ok (.iload_n 3, 1) := by decide +kernel
theorem dX7_linesAt_16 : decode cX7_linesAt 16 = .ok (.aload_n 0, 1) := by decide +kernel
theorem dX7_linesAt_17 : decode cX7_linesAt 17 = .ok (.getfield 51, 3) := by decide +kernel
theorem dX7_linesAt_20 : decode cX7_linesAt 20 = .ok (.getfield 89, 3) := by decide +kernel
theorem dX7_linesAt_23 : decode cX7_linesAt 23 = .ok (.if_icmp .ge 35, 3) := by decide +kernel
theorem dX7_linesAt_26 : decode cX7_linesAt 26 = .ok (.aload_n 0, 1) := by decide +kernel
theorem dX7_linesAt_27 : decode cX7_linesAt 27 = .ok (.getfield 51, 3) := by decide +kernel
theorem dX7_linesAt_30 : decode cX7_linesAt 30 = .ok (.aload_n 0, 1) := by decide +kernel
theorem dX7_linesAt_31 : decode cX7_linesAt 31 = .ok (.getfield 51, 3) := by decide +kernel
theorem dX7_linesAt_34 : decode cX7_linesAt 34 = .ok (.getfield 195, 3) := by decide +kernel
theorem dX7_linesAt_37 : decode cX7_linesAt 37 = .ok (.iload_n 3, 1) := by decide +kernel
theorem dX7_linesAt_38 : decode cX7_linesAt 38 = .ok (.iload_n 1, 1) := by decide +kernel
theorem dX7_linesAt_39 : decode cX7_linesAt 39 = .ok (.invokevirtual 198, 3) := by decide +kernel
theorem dX7_linesAt_42 : decode cX7_linesAt 42 = .ok (.iconst (-1), 1) := by decide +kernel
theorem dX7_linesAt_43 : decode cX7_linesAt 43 = .ok (.if_icmp .eq 9, 3) := by decide +kernel
theorem dX7_linesAt_46 : decode cX7_linesAt 46 = .ok (.iload_n 2, 1) := by decide +kernel
theorem dX7_linesAt_47 : decode cX7_linesAt 47 = .ok (.iconst 1, 1) := by decide +kernel
theorem dX7_linesAt_48 : decode cX7_linesAt 48 = .ok (.iload_n 3, 1) := by decide +kernel
theorem dX7_linesAt_49 : decode cX7_linesAt 49 = .ok (.ishl, 1) := by decide +kernel
theorem dX7_linesAt_50 : decode cX7_linesAt 50 = .ok (.ior, 1) := by decide +kernel
theorem dX7_linesAt_51 : decode cX7_linesAt 51 = .ok (.istore_n 2, 1) := by decide +kernel
theorem dX7_linesAt_52 : decode cX7_linesAt 52 = .ok (.iinc 3 1, 3) := by decide +kernel
theorem dX7_linesAt_55 : decode cX7_linesAt 55 = .ok (.goto (-40), 3) := by decide +kernel
theorem dX7_linesAt_58 : decode cX7_linesAt 58 = .ok (.iload_n 2, 1) := by decide +kernel
theorem dX7_linesAt_59 : decode cX7_linesAt 59 = .ok (.ireturn, 1) := by decide +kernel
theorem dX7_rootOf_0 : decode cX7_rootOf 0 = .ok (.iload_n 1, 1) := by decide +kernel
theorem dX7_rootOf_1 : decode cX7_rootOf 1 = .ok (.aload_n 0, 1) := by decide +kernel
theorem dX7_rootOf_2 : decode cX7_rootOf 2 = .ok (.getfield 51, 3) := by decide +kernel
theorem dX7_rootOf_5 : decode cX7_rootOf 5 = .ok (.getfield 86, 3) := by decide +kernel
theorem dX7_rootOf_8 : decode cX7_rootOf 8 = .ok (.invokestatic 110, 3) := by decide +kernel
theorem dX7_rootOf_11 : decode cX7_rootOf 11 = .ok (.aload_n 0, 1) := by decide +kernel
theorem dX7_rootOf_12 : decode cX7_rootOf 12 = .ok (.getfield 30, 3) := by decide +kernel
theorem dX7_rootOf_15 : decode cX7_rootOf 15 = .ok (.getfield 202, 3) := by decide +kernel
theorem dX7_rootOf_18 : decode cX7_rootOf 18 = .ok (.aload_n 0, 1) := by decide +kernel
theorem dX7_rootOf_19 : decode cX7_rootOf 19 = .ok (.getfield 51, 3) := by decide +kernel
theorem dX7_rootOf_22 : decode cX7_rootOf 22 = .ok (.aload_n 0, 1) := by decide +kernel
theorem dX7_rootOf_23 : decode cX7_rootOf 23 = .ok (.getfield 51, 3) := by decide +kernel
theorem dX7_rootOf_26 : decode cX7_rootOf 26 = .ok (.getfield 195, 3) := by decide +kernel
theorem dX7_rootOf_29 : decode cX7_rootOf 29 = .ok (.invokevirtual 206, 3) := by decide +kernel
theorem dX7_rootOf_32 : decode cX7_rootOf 32 = .ok (.aload_n 0, 1) := by decide +kernel
theorem dX7_rootOf_33 : decode cX7_rootOf 33 = .ok (.getfield 30, 3) := by decide +kernel
theorem dX7_rootOf_36 : decode cX7_rootOf 36 = .ok (.getfield 202, 3) := by decide +kernel
theorem dX7_rootOf_39 : decode cX7_rootOf 39 = .ok (.getfield 212, 3) := by decide +kernel
theorem dX7_rootOf_42 : decode cX7_rootOf 42 = .ok (.iload_n 1, 1) := by decide +kernel
theorem dX7_rootOf_43 : decode cX7_rootOf 43 = .ok (.iaload, 1) := by decide +kernel
theorem dX7_rootOf_44 : decode cX7_rootOf 44 = .ok (.ireturn, 1) := by decide +kernel
theorem dX7_partCount_0 : decode cX7_partCount 0 = .ok (.aload_n 0, 1) := by decide +kernel
theorem dX7_partCount_1 : decode cX7_partCount 1 = .ok (.getfield 30, 3) := by decide +kernel
theorem dX7_partCount_4 : decode cX7_partCount 4 = .ok (.getfield 202, 3) := by decide +kernel
theorem dX7_partCount_7 : decode cX7_partCount 7 = .ok (.aload_n 0, 1) := by decide +kernel
theorem dX7_partCount_8 : decode cX7_partCount 8 = .ok (.getfield 51, 3) := by decide +kernel
theorem dX7_partCount_11 : decode cX7_partCount 11 = .ok (.aload_n 0, 1) := by decide +kernel
theorem dX7_partCount_12 : decode cX7_partCount 12 = .ok (.getfield 51, 3) := by decide +kernel
theorem dX7_partCount_15 : decode cX7_partCount 15 = .ok (.getfield 195, 3) := by decide +kernel
theorem dX7_partCount_18 : decode cX7_partCount 18 = .ok (.invokevirtual 206, 3) := by decide +kernel
theorem dX7_partCount_21 : decode cX7_partCount 21 = .ok (.aload_n 0, 1) := by decide +kernel
theorem dX7_partCount_22 : decode cX7_partCount 22 = .ok (.getfield 30, 3) := by decide +kernel
theorem dX7_partCount_25 : decode cX7_partCount 25 = .ok (.getfield 202, 3) := by decide +kernel
theorem dX7_partCount_28 : decode cX7_partCount 28 = .ok (.getfield 215, 3) := by decide +kernel
theorem dX7_partCount_31 : decode cX7_partCount 31 = .ok (.ireturn, 1) := by decide +kernel
theorem dX7_distance_0 : decode cX7_distance 0 = .ok (.iload_n 1, 1) := by decide +kernel
theorem dX7_distance_1 : decode cX7_distance 1 = .ok (.aload_n 0, 1) := by decide +kernel
theorem dX7_distance_2 : decode cX7_distance 2 = .ok (.getfield 51, 3) := by decide +kernel
theorem dX7_distance_5 : decode cX7_distance 5 = .ok (.getfield 86, 3) := by decide +kernel
theorem dX7_distance_8 : decode cX7_distance 8 = .ok (.invokestatic 110, 3) := by decide +kernel
theorem dX7_distance_11 : decode cX7_distance 11 = .ok (.iload_n 2, 1) := by decide +kernel
theorem dX7_distance_12 : decode cX7_distance 12 = .ok (.aload_n 0, 1) := by decide +kernel
theorem dX7_distance_13 : decode cX7_distance 13 = .ok (.getfield 51, 3) := by decide +kernel
theorem dX7_distance_16 : decode cX7_distance 16 = .ok (.getfield 86, 3) := by decide +kernel
theorem dX7_distance_19 : decode cX7_distance 19 = .ok (.invokestatic 110, 3) := by decide +kernel
theorem dX7_distance_22 : decode cX7_distance 22 = .ok (.aload_n 0, 1) := by decide +kernel
theorem dX7_distance_23 : decode cX7_distance 23 = .ok (.getfield 23, 3) := by decide +kernel
theorem dX7_distance_26 : decode cX7_distance 26 = .ok (.aload_n 0, 1) := by decide +kernel
theorem dX7_distance_27 : decode cX7_distance 27 = .ok (.getfield 51, 3) := by decide +kernel
theorem dX7_distance_30 : decode cX7_distance 30 = .ok (.iload_n 1, 1) := by decide +kernel
theorem dX7_distance_31 : decode cX7_distance 31 = .ok (.invokevirtual 218, 3) := by decide +kernel
theorem dX7_distance_34 : decode cX7_distance 34 = .ok (.aload_n 0, 1) := by decide +kernel
theorem dX7_distance_35 : decode cX7_distance 35 = .ok (.getfield 23, 3) := by decide +kernel
theorem dX7_distance_38 : decode cX7_distance 38 = .ok (.getfield 221, 3) := by decide +kernel
theorem dX7_distance_41 : decode cX7_distance 41 = .ok (.iload_n 2, 1) := by decide +kernel
theorem dX7_distance_42 : decode cX7_distance 42 = .ok (.iaload, 1) := by decide +kernel
theorem dX7_distance_43 : decode cX7_distance 43 = .ok (.ireturn, 1) := by decide +kernel
theorem dX7_riseBetween_0 : decode cX7_riseBetween 0 = .ok (.iload_n 1, 1) := by decide +kernel
theorem dX7_riseBetween_1 : decode cX7_riseBetween 1 = .ok (.aload_n 0, 1) := by decide +kernel
theorem dX7_riseBetween_2 : decode cX7_riseBetween 2 = .ok (.getfield 51, 3) := by decide +kernel
theorem dX7_riseBetween_5 : decode cX7_riseBetween 5 = .ok (.getfield 86, 3) := by decide +kernel
theorem dX7_riseBetween_8 : decode cX7_riseBetween 8 = .ok (.invokestatic 110, 3) := by decide +kernel
theorem dX7_riseBetween_11 : decode cX7_riseBetween 11 = .ok (.iload_n 2, 1) := by decide +kernel
theorem dX7_riseBetween_12 : decode cX7_riseBetween 12 = .ok (.aload_n 0, 1) := by decide +kernel
theorem dX7_riseBetween_13 : decode cX7_riseBetween 13 = .ok (.getfield 51, 3) := by decide +kernel
theorem dX7_riseBetween_16 : decode cX7_riseBetween 16 = .ok (.getfield 86, 3) := by decide +kernel
theorem dX7_riseBetween_19 : decode cX7_riseBetween 19 = .ok (.invokestatic 110, 3) := by decide +kernel
theorem dX7_riseBetween_22 : decode cX7_riseBetween 22 = .ok (.aload_n 0, 1) := by decide +kernel
theorem dX7_riseBetween_23 : decode cX7_riseBetween 23 = .ok (.getfield 23, 3) := by decide +kernel
theorem dX7_riseBetween_26 : decode cX7_riseBetween 26 = .ok (.aload_n 0, 1) := by decide +kernel
theorem dX7_riseBetween_27 : decode cX7_riseBetween 27 = .ok (.getfield 51, 3) := by decide +kernel
theorem dX7_riseBetween_30 : decode cX7_riseBetween 30 = .ok (.iload_n 1, 1) := by decide +kernel
theorem dX7_riseBetween_31 : decode cX7_riseBetween 31 = .ok (.iload_n 2, 1) := by decide +kernel
theorem dX7_riseBetween_32 : decode cX7_riseBetween 32 = .ok (.invokevirtual 224, 3) := by decide +kernel
theorem dX7_riseBetween_35 : decode cX7_riseBetween 35 = .ok (.aload_n 0, 1) := by decide +kernel
theorem dX7_riseBetween_36 : decode cX7_riseBetween 36 = .ok (.getfield 23, 3) := by decide +kernel
theorem dX7_riseBetween_39 : decode cX7_riseBetween 39 = .ok (.getfield 221, 3) := by decide +kernel
theorem dX7_riseBetween_42 : decode cX7_riseBetween 42 = .ok (.iload_n 2, 1) := by decide +kernel
theorem dX7_riseBetween_43 : decode cX7_riseBetween 43 = .ok (.iaload, 1) := by decide +kernel
theorem dX7_riseBetween_44 : decode cX7_riseBetween 44 = .ok (.iconst (-1), 1) := by decide +kernel
theorem dX7_riseBetween_45 : decode cX7_riseBetween 45 = .ok (.if_icmp .ne 8, 3) := by decide +kernel
theorem dX7_riseBetween_48 : decode cX7_riseBetween 48 = .ok (.ldc 126, 2) := by decide +kernel
theorem dX7_riseBetween_50 : decode cX7_riseBetween 50 = .ok (.goto 10, 3) := by decide +kernel
theorem dX7_riseBetween_53 : decode cX7_riseBetween 53 = .ok (.aload_n 0, 1) := by decide +kernel
theorem dX7_riseBetween_54 : decode cX7_riseBetween 54 = .ok (.getfield 23, 3) := by decide +kernel
theorem dX7_riseBetween_57 : decode cX7_riseBetween 57 = .ok (.getfield 228, 3) := by decide +kernel
theorem dX7_riseBetween_60 : decode cX7_riseBetween 60 = .ok (.ireturn, 1) := by decide +kernel
theorem dX7_wayBetween_0 : decode cX7_wayBetween 0 = .ok (.iload_n 1, 1) := by decide +kernel
theorem dX7_wayBetween_1 : decode cX7_wayBetween 1 = .ok (.aload_n 0, 1) := by decide +kernel
theorem dX7_wayBetween_2 : decode cX7_wayBetween 2 = .ok (.getfield 51, 3) := by decide +kernel
theorem dX7_wayBetween_5 : decode cX7_wayBetween 5 = .ok (.getfield 86, 3) := by decide +kernel
theorem dX7_wayBetween_8 : decode cX7_wayBetween 8 = .ok (.invokestatic 110, 3) := by decide +kernel
theorem dX7_wayBetween_11 : decode cX7_wayBetween 11 = .ok (.iload_n 2, 1) := by decide +kernel
theorem dX7_wayBetween_12 : decode cX7_wayBetween 12 = .ok (.aload_n 0, 1) := by decide +kernel
theorem dX7_wayBetween_13 : decode cX7_wayBetween 13 = .ok (.getfield 51, 3) := by decide +kernel
theorem dX7_wayBetween_16 : decode cX7_wayBetween 16 = .ok (.getfield 86, 3) := by decide +kernel
theorem dX7_wayBetween_19 : decode cX7_wayBetween 19 = .ok (.invokestatic 110, 3) := by decide +kernel
theorem dX7_wayBetween_22 : decode cX7_wayBetween 22 = .ok (.aload_n 0, 1) := by decide +kernel
theorem dX7_wayBetween_23 : decode cX7_wayBetween 23 = .ok (.getfield 23, 3) := by decide +kernel
theorem dX7_wayBetween_26 : decode cX7_wayBetween 26 = .ok (.aload_n 0, 1) := by decide +kernel
theorem dX7_wayBetween_27 : decode cX7_wayBetween 27 = .ok (.getfield 51, 3) := by decide +kernel
theorem dX7_wayBetween_30 : decode cX7_wayBetween 30 = .ok (.iload_n 1, 1) := by decide +kernel
theorem dX7_wayBetween_31 : decode cX7_wayBetween 31 = .ok (.iload_n 2, 1) := by decide +kernel
theorem dX7_wayBetween_32 : decode cX7_wayBetween 32 = .ok (.invokevirtual 224, 3) := by decide +kernel
theorem dX7_wayBetween_35 : decode cX7_wayBetween 35 = .ok (.aload_n 0, 1) := by decide +kernel
theorem dX7_wayBetween_36 : decode cX7_wayBetween 36 = .ok (.getfield 23, 3) := by decide +kernel
theorem dX7_wayBetween_39 : decode cX7_wayBetween 39 = .ok (.getfield 231, 3) := by decide +kernel
theorem dX7_wayBetween_42 : decode cX7_wayBetween 42 = .ok (.ireturn, 1) := by decide +kernel
theorem dX7_bridges_0 : decode cX7_bridges 0 = .ok (.aload_n 0, 1) := by decide +kernel
theorem dX7_bridges_1 : decode cX7_bridges 1 = .ok (.getfield 30, 3) := by decide +kernel
theorem dX7_bridges_4 : decode cX7_bridges 4 = .ok (.aload_n 0, 1) := by decide +kernel
theorem dX7_bridges_5 : decode cX7_bridges 5 = .ok (.getfield 51, 3) := by decide +kernel
theorem dX7_bridges_8 : decode cX7_bridges 8 = .ok (.aload_n 0, 1) := by decide +kernel
theorem dX7_bridges_9 : decode cX7_bridges 9 = .ok (.getfield 51, 3) := by decide +kernel
theorem dX7_bridges_12 : decode cX7_bridges 12 = .ok (.getfield 195, 3) := by decide +kernel
theorem dX7_bridges_15 : decode cX7_bridges 15 = .ok (.invokevirtual 232, 3) := by decide +kernel
theorem dX7_bridges_18 : decode cX7_bridges 18 = .ok (.aload_n 0, 1) := by decide +kernel
theorem dX7_bridges_19 : decode cX7_bridges 19 = .ok (.getfield 51, 3) := by decide +kernel
theorem dX7_bridges_22 : decode cX7_bridges 22 = .ok (.getfield 195, 3) := by decide +kernel
theorem dX7_bridges_25 : decode cX7_bridges 25 = .ok (.istore_n 1, 1) := by decide +kernel
theorem dX7_bridges_26 : decode cX7_bridges 26 = .ok (.iconst 0, 1) := by decide +kernel
theorem dX7_bridges_27 : decode cX7_bridges 27 = .ok (.istore_n 2, 1) := by decide +kernel
theorem dX7_bridges_28 : decode cX7_bridges 28 = .ok (.iload_n 2, 1) := by decide +kernel
theorem dX7_bridges_29 : decode cX7_bridges 29 = .ok (.aload_n 0, 1) := by decide +kernel
theorem dX7_bridges_30 : decode cX7_bridges 30 = .ok (.getfield 30, 3) := by decide +kernel
theorem dX7_bridges_33 : decode cX7_bridges 33 = .ok (.getfield 235, 3) := by decide +kernel
theorem dX7_bridges_36 : decode cX7_bridges 36 = .ok (.if_icmp .ge 23, 3) := by decide +kernel
theorem dX7_bridges_39 : decode cX7_bridges 39 = .ok (.iload_n 1, 1) := by decide +kernel
theorem dX7_bridges_40 : decode cX7_bridges 40 = .ok (.aload_n 0, 1) := by decide +kernel
theorem dX7_bridges_41 : decode cX7_bridges 41 = .ok (.getfield 30, 3) := by decide +kernel
theorem dX7_bridges_44 : decode cX7_bridges 44 = .ok (.getfield 236, 3) := by decide +kernel
theorem dX7_bridges_47 : decode cX7_bridges 47 = .ok (.iload_n 2, 1) := by decide +kernel
theorem dX7_bridges_48 : decode cX7_bridges 48 = .ok (.iaload, 1) := by decide +kernel
theorem dX7_bridges_49 : decode cX7_bridges 49 = .ok (.iconst (-1), 1) := by decide +kernel
theorem dX7_bridges_50 : decode cX7_bridges 50 = .ok (.ixor, 1) := by decide +kernel
theorem dX7_bridges_51 : decode cX7_bridges 51 = .ok (.iand, 1) := by decide +kernel
theorem dX7_bridges_52 : decode cX7_bridges 52 = .ok (.istore_n 1, 1) := by decide +kernel
theorem dX7_bridges_53 : decode cX7_bridges 53 = .ok (.iinc 2 1, 3) := by decide +kernel
theorem dX7_bridges_56 : decode cX7_bridges 56 = .ok (.goto (-28), 3) := by decide +kernel
theorem dX7_bridges_59 : decode cX7_bridges 59 = .ok (.iload_n 1, 1) := by decide +kernel
theorem dX7_bridges_60 : decode cX7_bridges 60 = .ok (.ireturn, 1) := by decide +kernel
theorem dX7_treeLines_0 : decode cX7_treeLines 0 = .ok (.aload_n 0, 1) := by decide +kernel
theorem dX7_treeLines_1 : decode cX7_treeLines 1 = .ok (.getfield 30, 3) := by decide +kernel
theorem dX7_treeLines_4 : decode cX7_treeLines 4 = .ok (.getfield 202, 3) := by decide +kernel
theorem dX7_treeLines_7 : decode cX7_treeLines 7 = .ok (.aload_n 0, 1) := by decide +kernel
theorem dX7_treeLines_8 : decode cX7_treeLines 8 = .ok (.getfield 51, 3) := by decide +kernel
theorem dX7_treeLines_11 : decode cX7_treeLines 11 = .ok (.aload_n 0, 1) := by decide +kernel
theorem dX7_treeLines_12 : decode cX7_treeLines 12 = .ok (.getfield 51, 3) := by decide +kernel
theorem dX7_treeLines_15 : decode cX7_treeLines 15 = .ok (.getfield 195, 3) := by decide +kernel
theorem dX7_treeLines_18 : decode cX7_treeLines 18 = .ok (.invokevirtual 206, 3) := by decide +kernel
theorem dX7_treeLines_21 : decode cX7_treeLines 21 = .ok (.aload_n 0, 1) := by decide +kernel
theorem dX7_treeLines_22 : decode cX7_treeLines 22 = .ok (.getfield 30, 3) := by decide +kernel
theorem dX7_treeLines_25 : decode cX7_treeLines 25 = .ok (.getfield 202, 3) := by decide +kernel
theorem dX7_treeLines_28 : decode cX7_treeLines 28 = .ok (.getfield 239, 3) := by decide +kernel
theorem dX7_treeLines_31 : decode cX7_treeLines 31 = .ok (.ireturn, 1) := by decide +kernel
theorem dX7_countLoops_0 : decode cX7_countLoops 0 = .ok (.aload_n 0, 1) := by decide +kernel
theorem dX7_countLoops_1 : decode cX7_countLoops 1 = .ok (.getfield 30, 3) := by decide +kernel
theorem dX7_countLoops_4 : decode cX7_countLoops 4 = .ok (.getfield 202, 3) := by decide +kernel
theorem dX7_countLoops_7 : decode cX7_countLoops 7 = .ok (.aload_n 0, 1) := by decide +kernel
theorem dX7_countLoops_8 : decode cX7_countLoops 8 = .ok (.getfield 51, 3) := by decide +kernel
theorem dX7_countLoops_11 : decode cX7_countLoops 11 = .ok (.aload_n 0, 1) := by decide +kernel
theorem dX7_countLoops_12 : decode cX7_countLoops 12 = .ok (.getfield 51, 3) := by decide +kernel
theorem dX7_countLoops_15 : decode cX7_countLoops 15 = .ok (.getfield 195, 3) := by decide +kernel
theorem dX7_countLoops_18 : decode cX7_countLoops 18 = .ok (.invokevirtual 206, 3) := by decide +kernel
theorem dX7_countLoops_21 : decode cX7_countLoops 21 = .ok (.aload_n 0, 1) := by decide +kernel
theorem dX7_countLoops_22 : decode cX7_countLoops 22 = .ok (.getfield 51, 3) := by decide +kernel
theorem dX7_countLoops_25 : decode cX7_countLoops 25 = .ok (.getfield 195, 3) := by decide +kernel
theorem dX7_countLoops_28 : decode cX7_countLoops 28 = .ok (.aload_n 0, 1) := by decide +kernel
theorem dX7_countLoops_29 : decode cX7_countLoops 29 = .ok (.getfield 30, 3) := by decide +kernel
theorem dX7_countLoops_32 : decode cX7_countLoops 32 = .ok (.getfield 202, 3) := by decide +kernel
theorem dX7_countLoops_35 : decode cX7_countLoops 35 = .ok (.getfield 239, 3) := by decide +kernel
theorem dX7_countLoops_38 : decode cX7_countLoops 38 = .ok (.iconst (-1), 1) := by decide +kernel
theorem dX7_countLoops_39 : decode cX7_countLoops 39 = .ok (.ixor, 1) := by decide +kernel
theorem dX7_countLoops_40 : decode cX7_countLoops 40 = .ok (.iand, 1) := by decide +kernel
theorem dX7_countLoops_41 : decode cX7_countLoops 41 = .ok (.invokestatic 279, 3) := by decide +kernel
theorem dX7_countLoops_44 : decode cX7_countLoops 44 = .ok (.ireturn, 1) := by decide +kernel
theorem dX7_loopCount_0 : decode cX7_loopCount 0 = .ok (.aload_n 0, 1) := by decide +kernel
theorem dX7_loopCount_1 : decode cX7_loopCount 1 = .ok (.invokevirtual 242, 3) := by decide +kernel
theorem dX7_loopCount_4 : decode cX7_loopCount 4 = .ok (.ireturn, 1) := by decide +kernel
theorem dX7_needLoop_0 : decode cX7_needLoop 0 = .ok (.aload_n 0, 1) := by decide +kernel
theorem dX7_needLoop_1 : decode cX7_needLoop 1 = .ok (.getfield 30, 3) := by decide +kernel
theorem dX7_needLoop_4 : decode cX7_needLoop 4 = .ok (.aload_n 0, 1) := by decide +kernel
theorem dX7_needLoop_5 : decode cX7_needLoop 5 = .ok (.getfield 51, 3) := by decide +kernel
theorem dX7_needLoop_8 : decode cX7_needLoop 8 = .ok (.aload_n 0, 1) := by decide +kernel
theorem dX7_needLoop_9 : decode cX7_needLoop 9 = .ok (.getfield 51, 3) := by decide +kernel
theorem dX7_needLoop_12 : decode cX7_needLoop 12 = .ok (.getfield 195, 3) := by decide +kernel
theorem dX7_needLoop_15 : decode cX7_needLoop 15 = .ok (.invokevirtual 232, 3) := by decide +kernel
theorem dX7_needLoop_18 : decode cX7_needLoop 18 = .ok (.iload_n 1, 1) := by decide +kernel
theorem dX7_needLoop_19 : decode cX7_needLoop 19 = .ok (.aload_n 0, 1) := by decide +kernel
theorem dX7_needLoop_20 : decode cX7_needLoop 20 = .ok (.getfield 30, 3) := by decide +kernel
theorem dX7_needLoop_23 : decode cX7_needLoop 23 = .ok (.getfield 235, 3) := by decide +kernel
theorem dX7_needLoop_26 : decode cX7_needLoop 26 = .ok (.invokestatic 110, 3) := by decide +kernel
theorem dX7_needLoop_29 : decode cX7_needLoop 29 = .ok (.return_, 1) := by decide +kernel
theorem dX7_loopLine_0 : decode cX7_loopLine 0 = .ok (.aload_n 0, 1) := by decide +kernel
theorem dX7_loopLine_1 : decode cX7_loopLine 1 = .ok (.iload_n 1, 1) := by decide +kernel
theorem dX7_loopLine_2 : decode cX7_loopLine 2 = .ok (.invokevirtual 246, 3) := by decide +kernel
theorem dX7_loopLine_5 : decode cX7_loopLine 5 = .ok (.aload_n 0, 1) := by decide +kernel
theorem dX7_loopLine_6 : decode cX7_loopLine 6 = .ok (.getfield 30, 3) := by decide +kernel
theorem dX7_loopLine_9 : decode cX7_loopLine 9 = .ok (.aload_n 0, 1) := by decide +kernel
theorem dX7_loopLine_10 : decode cX7_loopLine 10 = .ok (.getfield 51, 3) := by decide +kernel
theorem dX7_loopLine_13 : decode cX7_loopLine 13 = .ok (.aload_n 0, 1) := by decide +kernel
theorem dX7_loopLine_14 : decode cX7_loopLine 14 = .ok (.getfield 30, 3) := by decide +kernel
theorem dX7_loopLine_17 : decode cX7_loopLine 17 = .ok (.getfield 249, 3) := by decide +kernel
theorem dX7_loopLine_20 : decode cX7_loopLine 20 = .ok (.iload_n 1, 1) := by decide +kernel
theorem dX7_loopLine_21 : decode cX7_loopLine 21 = .ok (.iaload, 1) := by decide +kernel
theorem dX7_loopLine_22 : decode cX7_loopLine 22 = .ok (.invokevirtual 252, 3) := by decide +kernel
theorem dX7_loopLine_25 : decode cX7_loopLine 25 = .ok (.iload_n 2, 1) := by decide +kernel
theorem dX7_loopLine_26 : decode cX7_loopLine 26 = .ok (.aload_n 0, 1) := by decide +kernel
theorem dX7_loopLine_27 : decode cX7_loopLine 27 = .ok (.getfield 30, 3) := by decide +kernel
theorem dX7_loopLine_30 : decode cX7_loopLine 30 = .ok (.getfield 255, 3) := by decide +kernel
theorem dX7_loopLine_33 : decode cX7_loopLine 33 = .ok (.invokestatic 102, 3) := by decide +kernel
theorem dX7_loopLine_36 : decode cX7_loopLine 36 = .ok (.ifCond .ne 5, 3) := by decide +kernel
theorem dX7_loopLine_39 : decode cX7_loopLine 39 = .ok (.iconst (-1), 1) := by decide +kernel
theorem dX7_loopLine_40 : decode cX7_loopLine 40 = .ok (.ireturn, 1) := by decide +kernel
theorem dX7_loopLine_41 : decode cX7_loopLine 41 = .ok (.aload_n 0, 1) := by decide +kernel
theorem dX7_loopLine_42 : decode cX7_loopLine 42 = .ok (.getfield 30, 3) := by decide +kernel
theorem dX7_loopLine_45 : decode cX7_loopLine 45 = .ok (.getfield 258, 3) := by decide +kernel
theorem dX7_loopLine_48 : decode cX7_loopLine 48 = .ok (.iload_n 2, 1) := by decide +kernel
theorem dX7_loopLine_49 : decode cX7_loopLine 49 = .ok (.iaload, 1) := by decide +kernel
theorem dX7_loopLine_50 : decode cX7_loopLine 50 = .ok (.ireturn, 1) := by decide +kernel
theorem dX7_loopLength_0 : decode cX7_loopLength 0 = .ok (.aload_n 0, 1) := by decide +kernel
theorem dX7_loopLength_1 : decode cX7_loopLength 1 = .ok (.iload_n 1, 1) := by decide +kernel
theorem dX7_loopLength_2 : decode cX7_loopLength 2 = .ok (.invokevirtual 246, 3) := by decide +kernel
theorem dX7_loopLength_5 : decode cX7_loopLength 5 = .ok (.aload_n 0, 1) := by decide +kernel
theorem dX7_loopLength_6 : decode cX7_loopLength 6 = .ok (.getfield 30, 3) := by decide +kernel
theorem dX7_loopLength_9 : decode cX7_loopLength 9 = .ok (.getfield 261, 3) := by decide +kernel
theorem dX7_loopLength_12 : decode cX7_loopLength 12 = .ok (.iload_n 1, 1) := by decide +kernel
theorem dX7_loopLength_13 : decode cX7_loopLength 13 = .ok (.iaload, 1) := by decide +kernel
theorem dX7_loopLength_14 : decode cX7_loopLength 14 = .ok (.ireturn, 1) := by decide +kernel
theorem dX7_misclosure_0 : decode cX7_misclosure 0 = .ok (.aload_n 0, 1) := by decide +kernel
theorem dX7_misclosure_1 : decode cX7_misclosure 1 = .ok (.iload_n 1, 1) := by decide +kernel
theorem dX7_misclosure_2 : decode cX7_misclosure 2 = .ok (.invokevirtual 246, 3) := by decide +kernel
theorem dX7_misclosure_5 : decode cX7_misclosure 5 = .ok (.aload_n 0, 1) := by decide +kernel
theorem dX7_misclosure_6 : decode cX7_misclosure 6 = .ok (.getfield 30, 3) := by decide +kernel
theorem dX7_misclosure_9 : decode cX7_misclosure 9 = .ok (.getfield 264, 3) := by decide +kernel
theorem dX7_misclosure_12 : decode cX7_misclosure 12 = .ok (.iload_n 1, 1) := by decide +kernel
theorem dX7_misclosure_13 : decode cX7_misclosure 13 = .ok (.iaload, 1) := by decide +kernel
theorem dX7_misclosure_14 : decode cX7_misclosure 14 = .ok (.ireturn, 1) := by decide +kernel
theorem dX7_allowed_0 : decode cX7_allowed 0 = .ok (.aload_n 0, 1) := by decide +kernel
theorem dX7_allowed_1 : decode cX7_allowed 1 = .ok (.iload_n 1, 1) := by decide +kernel
theorem dX7_allowed_2 : decode cX7_allowed 2 = .ok (.invokevirtual 246, 3) := by decide +kernel
theorem dX7_allowed_5 : decode cX7_allowed 5 = .ok (.aload_n 0, 1) := by decide +kernel
theorem dX7_allowed_6 : decode cX7_allowed 6 = .ok (.getfield 30, 3) := by decide +kernel
theorem dX7_allowed_9 : decode cX7_allowed 9 = .ok (.getfield 267, 3) := by decide +kernel
theorem dX7_allowed_12 : decode cX7_allowed 12 = .ok (.iload_n 1, 1) := by decide +kernel
theorem dX7_allowed_13 : decode cX7_allowed 13 = .ok (.iaload, 1) := by decide +kernel
theorem dX7_allowed_14 : decode cX7_allowed 14 = .ok (.ireturn, 1) := by decide +kernel
theorem dX7_badLoops_0 : decode cX7_badLoops 0 = .ok (.aload_n 0, 1) := by decide +kernel
theorem dX7_badLoops_1 : decode cX7_badLoops 1 = .ok (.getfield 30, 3) := by decide +kernel
theorem dX7_badLoops_4 : decode cX7_badLoops 4 = .ok (.aload_n 0, 1) := by decide +kernel
theorem dX7_badLoops_5 : decode cX7_badLoops 5 = .ok (.getfield 51, 3) := by decide +kernel
theorem dX7_badLoops_8 : decode cX7_badLoops 8 = .ok (.aload_n 0, 1) := by decide +kernel
theorem dX7_badLoops_9 : decode cX7_badLoops 9 = .ok (.getfield 51, 3) := by decide +kernel
theorem dX7_badLoops_12 : decode cX7_badLoops 12 = .ok (.getfield 195, 3) := by decide +kernel
theorem dX7_badLoops_15 : decode cX7_badLoops 15 = .ok (.invokevirtual 232, 3) := by decide +kernel
theorem dX7_badLoops_18 : decode cX7_badLoops 18 = .ok (.aload_n 0, 1) := by decide +kernel
theorem dX7_badLoops_19 : decode cX7_badLoops 19 = .ok (.getfield 30, 3) := by decide +kernel
theorem dX7_badLoops_22 : decode cX7_badLoops 22 = .ok (.invokevirtual 270, 3) := by decide +kernel
theorem dX7_badLoops_25 : decode cX7_badLoops 25 = .ok (.ireturn, 1) := by decide +kernel
theorem dX7_worstLoop_0 : decode cX7_worstLoop 0 = .ok (.aload_n 0, 1) := by decide +kernel
theorem dX7_worstLoop_1 : decode cX7_worstLoop 1 = .ok (.getfield 30, 3) := by decide +kernel
theorem dX7_worstLoop_4 : decode cX7_worstLoop 4 = .ok (.aload_n 0, 1) := by decide +kernel
theorem dX7_worstLoop_5 : decode cX7_worstLoop 5 = .ok (.getfield 51, 3) := by decide +kernel
theorem dX7_worstLoop_8 : decode cX7_worstLoop 8 = .ok (.aload_n 0, 1) := by decide +kernel
theorem dX7_worstLoop_9 : decode cX7_worstLoop 9 = .ok (.getfield 51, 3) := by decide +kernel
theorem dX7_worstLoop_12 : decode cX7_worstLoop 12 = .ok (.getfield 195, 3) := by decide +kernel
theorem dX7_worstLoop_15 : decode cX7_worstLoop 15 = .ok (.invokevirtual 232, 3) := by decide +kernel
theorem dX7_worstLoop_18 : decode cX7_worstLoop 18 = .ok (.iconst (-1), 1) := by decide +kernel
theorem dX7_worstLoop_19 : decode cX7_worstLoop 19 = .ok (.istore_n 1, 1) := by decide +kernel
theorem dX7_worstLoop_20 : decode cX7_worstLoop 20 = .ok (.iconst 0, 1) := by decide +kernel
theorem dX7_worstLoop_21 : decode cX7_worstLoop 21 = .ok (.istore_n 2, 1) := by decide +kernel
theorem dX7_worstLoop_22 : decode cX7_worstLoop 22 = .ok (.iconst 0, 1) := by decide +kernel
theorem dX7_worstLoop_23 : decode cX7_worstLoop 23 = .ok (.istore_n 3, 1) := by decide +kernel
theorem dX7_worstLoop_24 : decode cX7_worstLoop 24 = .ok (.iload_n 3, 1) := by decide +kernel
theorem dX7_worstLoop_25 : decode cX7_worstLoop 25 = .ok (.aload_n 0, 1) := by decide +kernel
theorem dX7_worstLoop_26 : decode cX7_worstLoop 26 = .ok (.getfield 30, 3) := by decide +kernel
theorem dX7_worstLoop_29 : decode cX7_worstLoop 29 = .ok (.getfield 235, 3) := by decide +kernel
theorem dX7_worstLoop_32 : decode cX7_worstLoop 32 = .ok (.if_icmp .ge 32, 3) := by decide +kernel
theorem dX7_worstLoop_35 : decode cX7_worstLoop 35 = .ok (.aload_n 0, 1) := by decide +kernel
theorem dX7_worstLoop_36 : decode cX7_worstLoop 36 = .ok (.getfield 30, 3) := by decide +kernel
theorem dX7_worstLoop_39 : decode cX7_worstLoop 39 = .ok (.iload_n 3, 1) := by decide +kernel
theorem dX7_worstLoop_40 : decode cX7_worstLoop 40 = .ok (.invokevirtual 273, 3) := by decide +kernel
theorem dX7_worstLoop_43 : decode cX7_worstLoop 43 = .ok (.iload_n 2, 1) := by decide +kernel
theorem dX7_worstLoop_44 : decode cX7_worstLoop 44 = .ok (.if_icmp .le 14, 3) := by decide +kernel
theorem dX7_worstLoop_47 : decode cX7_worstLoop 47 = .ok (.aload_n 0, 1) := by decide +kernel
theorem dX7_worstLoop_48 : decode cX7_worstLoop 48 = .ok (.getfield 30, 3) := by decide +kernel
theorem dX7_worstLoop_51 : decode cX7_worstLoop 51 = .ok (.iload_n 3, 1) := by decide +kernel
theorem dX7_worstLoop_52 : decode cX7_worstLoop 52 = .ok (.invokevirtual 273, 3) := by decide +kernel
theorem dX7_worstLoop_55 : decode cX7_worstLoop 55 = .ok (.istore_n 2, 1) := by decide +kernel
theorem dX7_worstLoop_56 : decode cX7_worstLoop 56 = .ok (.iload_n 3, 1) := by decide +kernel
theorem dX7_worstLoop_57 : decode cX7_worstLoop 57 = .ok (.istore_n 1, 1) := by decide +kernel
theorem dX7_worstLoop_58 : decode cX7_worstLoop 58 = .ok (.iinc 3 1, 3) := by decide +kernel
theorem dX7_worstLoop_61 : decode cX7_worstLoop 61 = .ok (.goto (-37), 3) := by decide +kernel
theorem dX7_worstLoop_64 : decode cX7_worstLoop 64 = .ok (.iload_n 1, 1) := by decide +kernel
theorem dX7_worstLoop_65 : decode cX7_worstLoop 65 = .ok (.ireturn, 1) := by decide +kernel
theorem dX7_suspectLine_0 : decode cX7_suspectLine 0 = .ok (.aload_n 0, 1) := by decide +kernel
theorem dX7_suspectLine_1 : decode cX7_suspectLine 1 = .ok (.getfield 30, 3) := by decide +kernel
theorem dX7_suspectLine_4 : decode cX7_suspectLine 4 = .ok (.aload_n 0, 1) := by decide +kernel
theorem dX7_suspectLine_5 : decode cX7_suspectLine 5 = .ok (.getfield 51, 3) := by decide +kernel
theorem dX7_suspectLine_8 : decode cX7_suspectLine 8 = .ok (.aload_n 0, 1) := by decide +kernel
theorem dX7_suspectLine_9 : decode cX7_suspectLine 9 = .ok (.getfield 51, 3) := by decide +kernel
theorem dX7_suspectLine_12 : decode cX7_suspectLine 12 = .ok (.getfield 195, 3) := by decide +kernel
theorem dX7_suspectLine_15 : decode cX7_suspectLine 15 = .ok (.invokevirtual 232, 3) := by decide +kernel
theorem dX7_suspectLine_18 : decode cX7_suspectLine 18 = .ok (.iconst (-1), 1) := by decide +kernel
theorem dX7_suspectLine_19 : decode cX7_suspectLine 19 = .ok (.istore_n 1, 1) := by decide +kernel
theorem dX7_suspectLine_20 : decode cX7_suspectLine 20 = .ok (.iconst 0, 1) := by decide +kernel
theorem dX7_suspectLine_21 : decode cX7_suspectLine 21 = .ok (.istore_n 2, 1) := by decide +kernel
theorem dX7_suspectLine_22 : decode cX7_suspectLine 22 = .ok (.iconst 0, 1) := by decide +kernel
theorem dX7_suspectLine_23 : decode cX7_suspectLine 23 = .ok (.istore_n 3, 1) := by decide +kernel
theorem dX7_suspectLine_24 : decode cX7_suspectLine 24 = .ok (.iload_n 3, 1) := by decide +kernel
theorem dX7_suspectLine_25 : decode cX7_suspectLine 25 = .ok (.aload_n 0, 1) := by decide +kernel
theorem dX7_suspectLine_26 : decode cX7_suspectLine 26 = .ok (.getfield 51, 3) := by decide +kernel
theorem dX7_suspectLine_29 : decode cX7_suspectLine 29 = .ok (.getfield 89, 3) := by decide +kernel
theorem dX7_suspectLine_32 : decode cX7_suspectLine 32 = .ok (.if_icmp .ge 30, 3) := by decide +kernel
theorem dX7_suspectLine_35 : decode cX7_suspectLine 35 = .ok (.aload_n 0, 1) := by decide +kernel
theorem dX7_suspectLine_36 : decode cX7_suspectLine 36 = .ok (.getfield 30, 3) := by decide +kernel
theorem dX7_suspectLine_39 : decode cX7_suspectLine 39 = .ok (.iload_n 3, 1) := by decide +kernel
theorem dX7_suspectLine_40 : decode cX7_suspectLine 40 = .ok (.invokevirtual 276, 3) := by decide +kernel
theorem dX7_suspectLine_43 : decode cX7_suspectLine 43 = .ok (.istore 4, 2) := by decide +kernel
theorem dX7_suspectLine_45 : decode cX7_suspectLine 45 = .ok (.iload 4, 2) := by decide +kernel
theorem dX7_suspectLine_47 : decode cX7_suspectLine 47 = .ok (.iload_n 2, 1) := by decide +kernel
theorem dX7_suspectLine_48 : decode cX7_suspectLine 48 = .ok (.if_icmp .le 8, 3) := by decide +kernel
theorem dX7_suspectLine_51 : decode cX7_suspectLine 51 = .ok (.iload 4, 2) := by decide +kernel
theorem dX7_suspectLine_53 : decode cX7_suspectLine 53 = .ok (.istore_n 2, 1) := by decide +kernel
theorem dX7_suspectLine_54 : decode cX7_suspectLine 54 = .ok (.iload_n 3, 1) := by decide +kernel
theorem dX7_suspectLine_55 : decode cX7_suspectLine 55 = .ok (.istore_n 1, 1) := by decide +kernel
theorem dX7_suspectLine_56 : decode cX7_suspectLine 56 = .ok (.iinc 3 1, 3) := by decide +kernel
theorem dX7_suspectLine_59 : decode cX7_suspectLine 59 = .ok (.goto (-35), 3) := by decide +kernel
theorem dX7_suspectLine_62 : decode cX7_suspectLine 62 = .ok (.iload_n 1, 1) := by decide +kernel
theorem dX7_suspectLine_63 : decode cX7_suspectLine 63 = .ok (.ireturn, 1) := by decide +kernel
theorem dX7_badWithout_0 : decode cX7_badWithout 0 = .ok (.iload_n 1, 1) := by decide +kernel
theorem dX7_badWithout_1 : decode cX7_badWithout 1 = .ok (.aload_n 0, 1) := by decide +kernel
theorem dX7_badWithout_2 : decode cX7_badWithout 2 = .ok (.getfield 51, 3) := by decide +kernel
theorem dX7_badWithout_5 : decode cX7_badWithout 5 = .ok (.getfield 89, 3) := by decide +kernel
theorem dX7_badWithout_8 : decode cX7_badWithout 8 = .ok (.invokestatic 110, 3) := by decide +kernel
theorem dX7_badWithout_11 : decode cX7_badWithout 11 = .ok (.aload_n 0, 1) := by decide +kernel
theorem dX7_badWithout_12 : decode cX7_badWithout 12 = .ok (.getfield 30, 3) := by decide +kernel
theorem dX7_badWithout_15 : decode cX7_badWithout 15 = .ok (.aload_n 0, 1) := by decide +kernel
theorem dX7_badWithout_16 : decode cX7_badWithout 16 = .ok (.getfield 51, 3) := by decide +kernel
theorem dX7_badWithout_19 : decode cX7_badWithout 19 = .ok (.aload_n 0, 1) := by decide +kernel
theorem dX7_badWithout_20 : decode cX7_badWithout 20 = .ok (.getfield 51, 3) := by decide +kernel
theorem dX7_badWithout_23 : decode cX7_badWithout 23 = .ok (.getfield 195, 3) := by decide +kernel
theorem dX7_badWithout_26 : decode cX7_badWithout 26 = .ok (.iconst 1, 1) := by decide +kernel
theorem dX7_badWithout_27 : decode cX7_badWithout 27 = .ok (.iload_n 1, 1) := by decide +kernel
theorem dX7_badWithout_28 : decode cX7_badWithout 28 = .ok (.ishl, 1) := by decide +kernel
theorem dX7_badWithout_29 : decode cX7_badWithout 29 = .ok (.iconst (-1), 1) := by decide +kernel
theorem dX7_badWithout_30 : decode cX7_badWithout 30 = .ok (.ixor, 1) := by decide +kernel
theorem dX7_badWithout_31 : decode cX7_badWithout 31 = .ok (.iand, 1) := by decide +kernel
theorem dX7_badWithout_32 : decode cX7_badWithout 32 = .ok (.invokevirtual 232, 3) := by decide +kernel
theorem dX7_badWithout_35 : decode cX7_badWithout 35 = .ok (.aload_n 0, 1) := by decide +kernel
theorem dX7_badWithout_36 : decode cX7_badWithout 36 = .ok (.getfield 30, 3) := by decide +kernel
theorem dX7_badWithout_39 : decode cX7_badWithout 39 = .ok (.invokevirtual 270, 3) := by decide +kernel
theorem dX7_badWithout_42 : decode cX7_badWithout 42 = .ok (.invokestatic 279, 3) := by decide +kernel
theorem dX7_badWithout_45 : decode cX7_badWithout 45 = .ok (.ireturn, 1) := by decide +kernel
theorem dX7_benchGap_0 : decode cX7_benchGap 0 = .ok (.iload_n 1, 1) := by decide +kernel
theorem dX7_benchGap_1 : decode cX7_benchGap 1 = .ok (.aload_n 0, 1) := by decide +kernel
theorem dX7_benchGap_2 : decode cX7_benchGap 2 = .ok (.getfield 51, 3) := by decide +kernel
theorem dX7_benchGap_5 : decode cX7_benchGap 5 = .ok (.getfield 86, 3) := by decide +kernel
theorem dX7_benchGap_8 : decode cX7_benchGap 8 = .ok (.invokestatic 110, 3) := by decide +kernel
theorem dX7_benchGap_11 : decode cX7_benchGap 11 = .ok (.iload_n 2, 1) := by decide +kernel
theorem dX7_benchGap_12 : decode cX7_benchGap 12 = .ok (.aload_n 0, 1) := by decide +kernel
theorem dX7_benchGap_13 : decode cX7_benchGap 13 = .ok (.getfield 51, 3) := by decide +kernel
theorem dX7_benchGap_16 : decode cX7_benchGap 16 = .ok (.getfield 86, 3) := by decide +kernel
theorem dX7_benchGap_19 : decode cX7_benchGap 19 = .ok (.invokestatic 110, 3) := by decide +kernel
theorem dX7_benchGap_22 : decode cX7_benchGap 22 = .ok (.aload_n 0, 1) := by decide +kernel
theorem dX7_benchGap_23 : decode cX7_benchGap 23 = .ok (.getfield 51, 3) := by decide +kernel
theorem dX7_benchGap_26 : decode cX7_benchGap 26 = .ok (.getfield 127, 3) := by decide +kernel
theorem dX7_benchGap_29 : decode cX7_benchGap 29 = .ok (.iload_n 1, 1) := by decide +kernel
theorem dX7_benchGap_30 : decode cX7_benchGap 30 = .ok (.iaload, 1) := by decide +kernel
theorem dX7_benchGap_31 : decode cX7_benchGap 31 = .ok (.iconst (-1), 1) := by decide +kernel
theorem dX7_benchGap_32 : decode cX7_benchGap 32 = .ok (.if_icmp .eq 16, 3) := by decide +kernel
theorem dX7_benchGap_35 : decode cX7_benchGap 35 = .ok (.aload_n 0, 1) := by decide +kernel
theorem dX7_benchGap_36 : decode cX7_benchGap 36 = .ok (.getfield 51, 3) := by decide +kernel
theorem dX7_benchGap_39 : decode cX7_benchGap 39 = .ok (.getfield 127, 3) := by decide +kernel
theorem dX7_benchGap_42 : decode cX7_benchGap 42 = .ok (.iload_n 2, 1) := by decide +kernel
theorem dX7_benchGap_43 : decode cX7_benchGap 43 = .ok (.iaload, 1) := by decide +kernel
theorem dX7_benchGap_44 : decode cX7_benchGap 44 = .ok (.iconst (-1), 1) := by decide +kernel
theorem dX7_benchGap_45 : decode cX7_benchGap 45 = .ok (.if_icmp .ne 6, 3) := by decide +kernel
theorem dX7_benchGap_48 : decode cX7_benchGap 48 = .ok (.ldc 126, 2) := by decide +kernel
theorem dX7_benchGap_50 : decode cX7_benchGap 50 = .ok (.ireturn, 1) := by decide +kernel
theorem dX7_benchGap_51 : decode cX7_benchGap 51 = .ok (.aload_n 0, 1) := by decide +kernel
theorem dX7_benchGap_52 : decode cX7_benchGap 52 = .ok (.getfield 23, 3) := by decide +kernel
theorem dX7_benchGap_55 : decode cX7_benchGap 55 = .ok (.aload_n 0, 1) := by decide +kernel
theorem dX7_benchGap_56 : decode cX7_benchGap 56 = .ok (.getfield 51, 3) := by decide +kernel
theorem dX7_benchGap_59 : decode cX7_benchGap 59 = .ok (.iload_n 1, 1) := by decide +kernel
theorem dX7_benchGap_60 : decode cX7_benchGap 60 = .ok (.iload_n 2, 1) := by decide +kernel
theorem dX7_benchGap_61 : decode cX7_benchGap 61 = .ok (.invokevirtual 224, 3) := by decide +kernel
theorem dX7_benchGap_64 : decode cX7_benchGap 64 = .ok (.aload_n 0, 1) := by decide +kernel
theorem dX7_benchGap_65 : decode cX7_benchGap 65 = .ok (.getfield 23, 3) := by decide +kernel
theorem dX7_benchGap_68 : decode cX7_benchGap 68 = .ok (.getfield 221, 3) := by decide +kernel
theorem dX7_benchGap_71 : decode cX7_benchGap 71 = .ok (.iload_n 2, 1) := by decide +kernel
theorem dX7_benchGap_72 : decode cX7_benchGap 72 = .ok (.iaload, 1) := by decide +kernel
theorem dX7_benchGap_73 : decode cX7_benchGap 73 = .ok (.iconst (-1), 1) := by decide +kernel
theorem dX7_benchGap_74 : decode cX7_benchGap 74 = .ok (.if_icmp .ne 6, 3) := by decide +kernel
theorem dX7_benchGap_77 : decode cX7_benchGap 77 = .ok (.ldc 126, 2) := by decide +kernel
theorem dX7_benchGap_79 : decode cX7_benchGap 79 = .ok (.ireturn, 1) := by decide +kernel
theorem dX7_benchGap_80 : decode cX7_benchGap 80 = .ok (.aload_n 0, 1) := by decide +kernel
theorem dX7_benchGap_81 : decode cX7_benchGap 81 = .ok (.getfield 23, 3) := by decide +kernel
theorem dX7_benchGap_84 : decode cX7_benchGap 84 = .ok (.getfield 228, 3) := by decide +kernel
theorem dX7_benchGap_87 : decode cX7_benchGap 87 = .ok (.bipush 100, 2) := by decide +kernel
theorem dX7_benchGap_89 : decode cX7_benchGap 89 = .ok (.aload_n 0, 1) := by decide +kernel
theorem dX7_benchGap_90 : decode cX7_benchGap 90 = .ok (.getfield 51, 3) := by decide +kernel
theorem dX7_benchGap_93 : decode cX7_benchGap 93 = .ok (.getfield 127, 3) := by decide +kernel
theorem dX7_benchGap_96 : decode cX7_benchGap 96 = .ok (.iload_n 2, 1) := by decide +kernel
theorem dX7_benchGap_97 : decode cX7_benchGap 97 = .ok (.iaload, 1) := by decide +kernel
theorem dX7_benchGap_98 : decode cX7_benchGap 98 = .ok (.aload_n 0, 1) := by decide +kernel
theorem dX7_benchGap_99 : decode cX7_benchGap 99 = .ok (.getfield 51, 3) := by decide +kernel
theorem dX7_benchGap_102 : decode cX7_benchGap 102 = .ok (.getfield 127, 3) := by decide +kernel
theorem dX7_benchGap_105 : decode cX7_benchGap 105 = .ok (.iload_n 1, 1) := by decide +kernel
theorem dX7_benchGap_106 : decode cX7_benchGap 106 = .ok (.iaload, 1) := by decide +kernel
theorem dX7_benchGap_107 : decode cX7_benchGap 107 = .ok (.isub, 1) := by decide +kernel
theorem dX7_benchGap_108 : decode cX7_benchGap 108 = .ok (.imul, 1) := by decide +kernel
theorem dX7_benchGap_109 : decode cX7_benchGap 109 = .ok (.isub, 1) := by decide +kernel
theorem dX7_benchGap_110 : decode cX7_benchGap 110 = .ok (.ireturn, 1) := by decide +kernel
theorem dX7_provisional_0 : decode cX7_provisional 0 = .ok (.iload_n 1, 1) := by decide +kernel
theorem dX7_provisional_1 : decode cX7_provisional 1 = .ok (.aload_n 0, 1) := by decide +kernel
theorem dX7_provisional_2 : decode cX7_provisional 2 = .ok (.getfield 51, 3) := by decide +kernel
theorem dX7_provisional_5 : decode cX7_provisional 5 = .ok (.getfield 86, 3) := by decide +kernel
theorem dX7_provisional_8 : decode cX7_provisional 8 = .ok (.invokestatic 110, 3) := by decide +kernel
theorem dX7_provisional_11 : decode cX7_provisional 11 = .ok (.aload_n 0, 1) := by decide +kernel
theorem dX7_provisional_12 : decode cX7_provisional 12 = .ok (.getfield 37, 3) := by decide +kernel
theorem dX7_provisional_15 : decode cX7_provisional 15 = .ok (.aload_n 0, 1) := by decide +kernel
theorem dX7_provisional_16 : decode cX7_provisional 16 = .ok (.getfield 51, 3) := by decide +kernel
theorem dX7_provisional_19 : decode cX7_provisional 19 = .ok (.invokevirtual 181, 3) := by decide +kernel
theorem dX7_provisional_22 : decode cX7_provisional 22 = .ok (.aload_n 0, 1) := by decide +kernel
theorem dX7_provisional_23 : decode cX7_provisional 23 = .ok (.getfield 37, 3) := by decide +kernel
theorem dX7_provisional_26 : decode cX7_provisional 26 = .ok (.getfield 185, 3) := by decide +kernel
theorem dX7_provisional_29 : decode cX7_provisional 29 = .ok (.iload_n 1, 1) := by decide +kernel
theorem dX7_provisional_30 : decode cX7_provisional 30 = .ok (.laload, 1) := by decide +kernel
theorem dX7_provisional_31 : decode cX7_provisional 31 = .ok (.lreturn, 1) := by decide +kernel
theorem dX7_reached_0 : decode cX7_reached 0 = .ok (.aload_n 0, 1) := by decide +kernel
theorem dX7_reached_1 : decode cX7_reached 1 = .ok (.getfield 37, 3) := by decide +kernel
theorem dX7_reached_4 : decode cX7_reached 4 = .ok (.aload_n 0, 1) := by decide +kernel
theorem dX7_reached_5 : decode cX7_reached 5 = .ok (.getfield 51, 3) := by decide +kernel
theorem dX7_reached_8 : decode cX7_reached 8 = .ok (.invokevirtual 181, 3) := by decide +kernel
theorem dX7_reached_11 : decode cX7_reached 11 = .ok (.iconst 0, 1) := by decide +kernel
theorem dX7_reached_12 : decode cX7_reached 12 = .ok (.istore_n 1, 1) := by decide +kernel
theorem dX7_reached_13 : decode cX7_reached 13 = .ok (.iconst 0, 1) := by decide +kernel
theorem dX7_reached_14 : decode cX7_reached 14 = .ok (.istore_n 2, 1) := by decide +kernel
theorem dX7_reached_15 : decode cX7_reached 15 = .ok (.iload_n 2, 1) := by decide +kernel
theorem dX7_reached_16 : decode cX7_reached 16 = .ok (.aload_n 0, 1) := by decide +kernel
theorem dX7_reached_17 : decode cX7_reached 17 = .ok (.getfield 51, 3) := by decide +kernel
theorem dX7_reached_20 : decode cX7_reached 20 = .ok (.getfield 86, 3) := by decide +kernel
theorem dX7_reached_23 : decode cX7_reached 23 = .ok (.if_icmp .ge 31, 3) := by decide +kernel
theorem dX7_reached_26 : decode cX7_reached 26 = .ok (.aload_n 0, 1) := by decide +kernel
theorem dX7_reached_27 : decode cX7_reached 27 = .ok (.getfield 37, 3) := by decide +kernel
theorem dX7_reached_30 : decode cX7_reached 30 = .ok (.getfield 185, 3) := by decide +kernel
theorem dX7_reached_33 : decode cX7_reached 33 = .ok (.iload_n 2, 1) := by decide +kernel
theorem dX7_reached_34 : decode cX7_reached 34 = .ok (.laload, 1) := by decide +kernel
theorem dX7_reached_35 : decode cX7_reached 35 = .ok (.ldc2_w 179, 3) := by decide +kernel
theorem dX7_reached_38 : decode cX7_reached 38 = .ok (.lcmp, 1) := by decide +kernel
theorem dX7_reached_39 : decode cX7_reached 39 = .ok (.ifCond .eq 9, 3) := by decide +kernel
theorem dX7_reached_42 : decode cX7_reached 42 = .ok (.iload_n 1, 1) := by decide +kernel
theorem dX7_reached_43 : decode cX7_reached 43 = .ok (.iconst 1, 1) := by decide +kernel
theorem dX7_reached_44 : decode cX7_reached 44 = .ok (.iload_n 2, 1) := by decide +kernel
theorem dX7_reached_45 : decode cX7_reached 45 = .ok (.ishl, 1) := by decide +kernel
theorem dX7_reached_46 : decode cX7_reached 46 = .ok (.ior, 1) := by decide +kernel
theorem dX7_reached_47 : decode cX7_reached 47 = .ok (.istore_n 1, 1) := by decide +kernel
theorem dX7_reached_48 : decode cX7_reached 48 = .ok (.iinc 2 1, 3) := by decide +kernel
theorem dX7_reached_51 : decode cX7_reached 51 = .ok (.goto (-36), 3) := by decide +kernel
theorem dX7_reached_54 : decode cX7_reached 54 = .ok (.iload_n 1, 1) := by decide +kernel
theorem dX7_reached_55 : decode cX7_reached 55 = .ok (.ireturn, 1) := by decide +kernel
theorem dX7_isAdjusted_0 : decode cX7_isAdjusted 0 = .ok (.aload_n 0, 1) := by decide +kernel
theorem dX7_isAdjusted_1 : decode cX7_isAdjusted 1 = .ok (.getfield 37, 3) := by decide +kernel
theorem dX7_isAdjusted_4 : decode cX7_isAdjusted 4 = .ok (.getfield 76, 3) := by decide +kernel
theorem dX7_isAdjusted_7 : decode cX7_isAdjusted 7 = .ok (.ireturn, 1) := by decide +kernel
theorem dX7_heightOf_0 : decode cX7_heightOf 0 = .ok (.iload_n 1, 1) := by decide +kernel
theorem dX7_heightOf_1 : decode cX7_heightOf 1 = .ok (.aload_n 0, 1) := by decide +kernel
theorem dX7_heightOf_2 : decode cX7_heightOf 2 = .ok (.getfield 51, 3) := by decide +kernel
theorem dX7_heightOf_5 : decode cX7_heightOf 5 = .ok (.getfield 86, 3) := by decide +kernel
theorem dX7_heightOf_8 : decode cX7_heightOf 8 = .ok (.invokestatic 110, 3) := by decide +kernel
theorem dX7_heightOf_11 : decode cX7_heightOf 11 = .ok (.aload_n 0, 1) := by decide +kernel
theorem dX7_heightOf_12 : decode cX7_heightOf 12 = .ok (.getfield 37, 3) := by decide +kernel
theorem dX7_heightOf_15 : decode cX7_heightOf 15 = .ok (.iload_n 1, 1) := by decide +kernel
theorem dX7_heightOf_16 : decode cX7_heightOf 16 = .ok (.invokevirtual 282, 3) := by decide +kernel
theorem dX7_heightOf_19 : decode cX7_heightOf 19 = .ok (.lreturn, 1) := by decide +kernel
theorem dX7_residual_0 : decode cX7_residual 0 = .ok (.iload_n 1, 1) := by decide +kernel
theorem dX7_residual_1 : decode cX7_residual 1 = .ok (.aload_n 0, 1) := by decide +kernel
theorem dX7_residual_2 : decode cX7_residual 2 = .ok (.getfield 51, 3) := by decide +kernel
theorem dX7_residual_5 : decode cX7_residual 5 = .ok (.getfield 89, 3) := by decide +kernel
theorem dX7_residual_8 : decode cX7_residual 8 = .ok (.invokestatic 110, 3) := by decide +kernel
theorem dX7_residual_11 : decode cX7_residual 11 = .ok (.aload_n 0, 1) := by decide +kernel
theorem dX7_residual_12 : decode cX7_residual 12 = .ok (.getfield 37, 3) := by decide +kernel
theorem dX7_residual_15 : decode cX7_residual 15 = .ok (.aload_n 0, 1) := by decide +kernel
theorem dX7_residual_16 : decode cX7_residual 16 = .ok (.getfield 51, 3) := by decide +kernel
theorem dX7_residual_19 : decode cX7_residual 19 = .ok (.iload_n 1, 1) := by decide +kernel
theorem dX7_residual_20 : decode cX7_residual 20 = .ok (.invokevirtual 286, 3) := by decide +kernel
theorem dX7_residual_23 : decode cX7_residual 23 = .ok (.lreturn, 1) := by decide +kernel
theorem dX7_worstLine_0 : decode cX7_worstLine 0 = .ok (.iconst (-1), 1) := by decide +kernel
theorem dX7_worstLine_1 : decode cX7_worstLine 1 = .ok (.istore_n 1, 1) := by decide +kernel
theorem dX7_worstLine_2 : decode cX7_worstLine 2 = .ok (.ldc2_w 290, 3) := by decide +kernel
theorem dX7_worstLine_5 : decode cX7_worstLine 5 = .ok (.lstore_n 2, 1) := by decide +kernel
theorem dX7_worstLine_6 : decode cX7_worstLine 6 = .ok (.iconst 0, 1) := by decide +kernel
theorem dX7_worstLine_7 : decode cX7_worstLine 7 = .ok (.istore 4, 2) := by decide +kernel
theorem dX7_worstLine_9 : decode cX7_worstLine 9 = .ok (.iload 4, 2) := by decide +kernel
theorem dX7_worstLine_11 : decode cX7_worstLine 11 = .ok (.aload_n 0, 1) := by decide +kernel
theorem dX7_worstLine_12 : decode cX7_worstLine 12 = .ok (.getfield 51, 3) := by decide +kernel
theorem dX7_worstLine_15 : decode cX7_worstLine 15 = .ok (.getfield 89, 3) := by decide +kernel
theorem dX7_worstLine_18 : decode cX7_worstLine 18 = .ok (.if_icmp .ge 77, 3) := by decide +kernel
theorem dX7_worstLine_21 : decode cX7_worstLine 21 = .ok (.aload_n 0, 1) := by decide +kernel
theorem dX7_worstLine_22 : decode cX7_worstLine 22 = .ok (.getfield 37, 3) := by decide +kernel
theorem dX7_worstLine_25 : decode cX7_worstLine 25 = .ok (.aload_n 0, 1) := by decide +kernel
theorem dX7_worstLine_26 : decode cX7_worstLine 26 = .ok (.getfield 51, 3) := by decide +kernel
theorem dX7_worstLine_29 : decode cX7_worstLine 29 = .ok (.iload 4, 2) := by decide +kernel
theorem dX7_worstLine_31 : decode cX7_worstLine 31 = .ok (.invokevirtual 286, 3) := by decide +kernel
theorem dX7_worstLine_34 : decode cX7_worstLine 34 = .ok (.lstore 5, 2) := by decide +kernel
theorem dX7_worstLine_36 : decode cX7_worstLine 36 = .ok (.aload_n 0, 1) := by decide +kernel
theorem dX7_worstLine_37 : decode cX7_worstLine 37 = .ok (.getfield 51, 3) := by decide +kernel
theorem dX7_worstLine_40 : decode cX7_worstLine 40 = .ok (.iload 4, 2) := by decide +kernel
theorem dX7_worstLine_42 : decode cX7_worstLine 42 = .ok (.invokevirtual 146, 3) := by decide +kernel
theorem dX7_worstLine_45 : decode cX7_worstLine 45 = .ok (.istore 7, 2) := by decide +kernel
theorem dX7_worstLine_47 : decode cX7_worstLine 47 = .ok (.lload 5, 2) := by decide +kernel
theorem dX7_worstLine_49 : decode cX7_worstLine 49 = .ok (.ldc2_w 179, 3) := by decide +kernel
theorem dX7_worstLine_52 : decode cX7_worstLine 52 = .ok (.lcmp, 1) := by decide +kernel
theorem dX7_worstLine_53 : decode cX7_worstLine 53 = .ok (.ifCond .eq 36, 3) := by decide +kernel
theorem dX7_worstLine_56 : decode cX7_worstLine 56 = .ok (.iload 7, 2) := by decide +kernel
theorem dX7_worstLine_58 : decode cX7_worstLine 58 = .ok (.ifCond .le 31, 3) := by decide +kernel
theorem dX7_worstLine_61 : decode cX7_worstLine 61 = .ok (.ldc2_w 292, 3) := by decide +kernel
theorem dX7_worstLine_64 : decode cX7_worstLine 64 = .ok (.lload 5, 2) := by decide +kernel
theorem dX7_worstLine_66 : decode cX7_worstLine 66 = .ok (.invokestatic 294, 3) := by decide +kernel
theorem dX7_worstLine_69 : decode cX7_worstLine 69 = .ok (.lmul, 1) := by decide +kernel
theorem dX7_worstLine_70 : decode cX7_worstLine 70 = .ok (.iload 7, 2) := by decide +kernel
theorem dX7_worstLine_72 : decode cX7_worstLine 72 = .ok (.i2l, 1) := by decide +kernel
theorem dX7_worstLine_73 : decode cX7_worstLine 73 = .ok (.ldiv, 1) := by decide +kernel
theorem dX7_worstLine_74 : decode cX7_worstLine 74 = .ok (.lstore 8, 2) := by decide +kernel
theorem dX7_worstLine_76 : decode cX7_worstLine 76 = .ok (.lload 8, 2) := by decide +kernel
theorem dX7_worstLine_78 : decode cX7_worstLine 78 = .ok (.lload_n 2, 1) := by decide +kernel
theorem dX7_worstLine_79 : decode cX7_worstLine 79 = .ok (.lcmp, 1) := by decide +kernel
theorem dX7_worstLine_80 : decode cX7_worstLine 80 = .ok (.ifCond .le 9, 3) := by decide +kernel
theorem dX7_worstLine_83 : decode cX7_worstLine 83 = .ok (.lload 8, 2) := by decide +kernel
theorem dX7_worstLine_85 : decode cX7_worstLine 85 = .ok (.lstore_n 2, 1) := by decide +kernel
theorem dX7_worstLine_86 : decode cX7_worstLine 86 = .ok (.iload 4, 2) := by decide +kernel
theorem dX7_worstLine_88 : decode cX7_worstLine 88 = .ok (.istore_n 1, 1) := by decide +kernel
theorem dX7_worstLine_89 : decode cX7_worstLine 89 = .ok (.iinc 4 1, 3) := by decide +kernel
theorem dX7_worstLine_92 : decode cX7_worstLine 92 = .ok (.goto (-83), 3) := by decide +kernel
theorem dX7_worstLine_95 : decode cX7_worstLine 95 = .ok (.iload_n 1, 1) := by decide +kernel
theorem dX7_worstLine_96 : decode cX7_worstLine 96 = .ok (.ireturn, 1) := by decide +kernel
theorem dX7_mostMoved_0 : decode cX7_mostMoved 0 = .ok (.aload_n 0, 1) := by decide +kernel
theorem dX7_mostMoved_1 : decode cX7_mostMoved 1 = .ok (.getfield 37, 3) := by decide +kernel
theorem dX7_mostMoved_4 : decode cX7_mostMoved 4 = .ok (.aload_n 0, 1) := by decide +kernel
theorem dX7_mostMoved_5 : decode cX7_mostMoved 5 = .ok (.getfield 51, 3) := by decide +kernel
theorem dX7_mostMoved_8 : decode cX7_mostMoved 8 = .ok (.invokevirtual 181, 3) := by decide +kernel
theorem dX7_mostMoved_11 : decode cX7_mostMoved 11 = .ok (.iconst (-1), 1) := by decide +kernel
theorem dX7_mostMoved_12 : decode cX7_mostMoved 12 = .ok (.istore_n 1, 1) := by decide +kernel
theorem dX7_mostMoved_13 : decode cX7_mostMoved 13 = .ok (.ldc2_w 290, 3) := by decide +kernel
theorem dX7_mostMoved_16 : decode cX7_mostMoved 16 = .ok (.lstore_n 2, 1) := by decide +kernel
theorem dX7_mostMoved_17 : decode cX7_mostMoved 17 = .ok (.iconst 0, 1) := by decide +kernel
theorem dX7_mostMoved_18 : decode cX7_mostMoved 18 = .ok (.istore 4, 2) := by decide +kernel
theorem dX7_mostMoved_20 : decode cX7_mostMoved 20 = .ok (.iload 4, 2) := by decide +kernel
theorem dX7_mostMoved_22 : decode cX7_mostMoved 22 = .ok (.aload_n 0, 1) := by decide +kernel
theorem dX7_mostMoved_23 : decode cX7_mostMoved 23 = .ok (.getfield 51, 3) := by decide +kernel
theorem dX7_mostMoved_26 : decode cX7_mostMoved 26 = .ok (.getfield 86, 3) := by decide +kernel
theorem dX7_mostMoved_29 : decode cX7_mostMoved 29 = .ok (.if_icmp .ge 60, 3) := by decide +kernel
theorem dX7_mostMoved_32 : decode cX7_mostMoved 32 = .ok (.aload_n 0, 1) := by decide +kernel
theorem dX7_mostMoved_33 : decode cX7_mostMoved 33 = .ok (.getfield 37, 3) := by decide +kernel
theorem dX7_mostMoved_36 : decode cX7_mostMoved 36 = .ok (.iload 4, 2) := by decide +kernel
theorem dX7_mostMoved_38 : decode cX7_mostMoved 38 = .ok (.invokevirtual 282, 3) := by decide +kernel
theorem dX7_mostMoved_41 : decode cX7_mostMoved 41 = .ok (.lstore 5, 2) := by decide +kernel
theorem dX7_mostMoved_43 : decode cX7_mostMoved 43 = .ok (.lload 5, 2) := by decide +kernel
theorem dX7_mostMoved_45 : decode cX7_mostMoved 45 = .ok (.ldc2_w 179, 3) := by decide +kernel
theorem dX7_mostMoved_48 : decode cX7_mostMoved 48 = .ok (.lcmp, 1) := by decide +kernel
theorem dX7_mostMoved_49 : decode cX7_mostMoved 49 = .ok (.ifCond .eq 34, 3) := by decide +kernel
theorem dX7_mostMoved_52 : decode cX7_mostMoved 52 = .ok (.lload 5, 2) := by decide +kernel
theorem dX7_mostMoved_54 : decode cX7_mostMoved 54 = .ok (.aload_n 0, 1) := by decide +kernel
theorem dX7_mostMoved_55 : decode cX7_mostMoved 55 = .ok (.getfield 37, 3) := by decide +kernel
theorem dX7_mostMoved_58 : decode cX7_mostMoved 58 = .ok (.getfield 185, 3) := by decide +kernel
theorem dX7_mostMoved_61 : decode cX7_mostMoved 61 = .ok (.iload 4, 2) := by decide +kernel
theorem dX7_mostMoved_63 : decode cX7_mostMoved 63 = .ok (.laload, 1) := by decide +kernel
theorem dX7_mostMoved_64 : decode cX7_mostMoved 64 = .ok (.lsub, 1) := by decide +kernel
theorem dX7_mostMoved_65 : decode cX7_mostMoved 65 = .ok (.invokestatic 294, 3) := by decide +kernel
theorem dX7_mostMoved_68 : decode cX7_mostMoved 68 = .ok (.lstore 7, 2) := by decide +kernel
theorem dX7_mostMoved_70 : decode cX7_mostMoved 70 = .ok (.lload 7, 2) := by decide +kernel
theorem dX7_mostMoved_72 : decode cX7_mostMoved 72 = .ok (.lload_n 2, 1) := by decide +kernel
theorem dX7_mostMoved_73 : decode cX7_mostMoved 73 = .ok (.lcmp, 1) := by decide +kernel
theorem dX7_mostMoved_74 : decode cX7_mostMoved 74 = .ok (.ifCond .le 9, 3) := by decide +kernel
theorem dX7_mostMoved_77 : decode cX7_mostMoved 77 = .ok (.lload 7, 2) := by decide +kernel
theorem dX7_mostMoved_79 : decode cX7_mostMoved 79 = .ok (.lstore_n 2, 1) := by decide +kernel
theorem dX7_mostMoved_80 : decode cX7_mostMoved 80 = .ok (.iload 4, 2) := by decide +kernel
theorem dX7_mostMoved_82 : decode cX7_mostMoved 82 = .ok (.istore_n 1, 1) := by decide +kernel
theorem dX7_mostMoved_83 : decode cX7_mostMoved 83 = .ok (.iinc 4 1, 3) := by decide +kernel
theorem dX7_mostMoved_86 : decode cX7_mostMoved 86 = .ok (.goto (-66), 3) := by decide +kernel
theorem dX7_mostMoved_89 : decode cX7_mostMoved 89 = .ok (.iload_n 1, 1) := by decide +kernel
theorem dX7_mostMoved_90 : decode cX7_mostMoved 90 = .ok (.ireturn, 1) := by decide +kernel
theorem dX7_residualSum_0 : decode cX7_residualSum 0 = .ok (.lconst 0, 1) := by decide +kernel
theorem dX7_residualSum_1 : decode cX7_residualSum 1 = .ok (.lstore_n 1, 1) := by decide +kernel
theorem dX7_residualSum_2 : decode cX7_residualSum 2 = .ok (.iconst 0, 1) := by decide +kernel
theorem dX7_residualSum_3 : decode cX7_residualSum 3 = .ok (.istore_n 3, 1) := by decide +kernel
theorem dX7_residualSum_4 : decode cX7_residualSum 4 = .ok (.iload_n 3, 1) := by decide +kernel
theorem dX7_residualSum_5 : decode cX7_residualSum 5 = .ok (.aload_n 0, 1) := by decide +kernel
theorem dX7_residualSum_6 : decode cX7_residualSum 6 = .ok (.getfield 51, 3) := by decide +kernel
theorem dX7_residualSum_9 : decode cX7_residualSum 9 = .ok (.getfield 89, 3) := by decide +kernel
theorem dX7_residualSum_12 : decode cX7_residualSum 12 = .ok (.if_icmp .ge 50, 3) := by decide +kernel
theorem dX7_residualSum_15 : decode cX7_residualSum 15 = .ok (.aload_n 0, 1) := by decide +kernel
theorem dX7_residualSum_16 : decode cX7_residualSum 16 = .ok (.getfield 37, 3) := by decide +kernel
theorem dX7_residualSum_19 : decode cX7_residualSum 19 = .ok (.aload_n 0, 1) := by decide +kernel
theorem dX7_residualSum_20 : decode cX7_residualSum 20 = .ok (.getfield 51, 3) := by decide +kernel
theorem dX7_residualSum_23 : decode cX7_residualSum 23 = .ok (.iload_n 3, 1) := by decide +kernel
theorem dX7_residualSum_24 : decode cX7_residualSum 24 = .ok (.invokevirtual 286, 3) := by decide +kernel
theorem dX7_residualSum_27 : decode cX7_residualSum 27 = .ok (.lstore 4, 2) := by decide +kernel
theorem dX7_residualSum_29 : decode cX7_residualSum 29 = .ok (.lload 4, 2) := by decide +kernel
theorem dX7_residualSum_31 : decode cX7_residualSum 31 = .ok (.ldc2_w 179, 3) := by decide +kernel
theorem dX7_residualSum_34 : decode cX7_residualSum 34 = .ok (.lcmp, 1) := by decide +kernel
theorem dX7_residualSum_35 : decode cX7_residualSum 35 = .ok (.ifCond .eq 21, 3) := by decide +kernel
theorem dX7_residualSum_38 : decode cX7_residualSum 38 = .ok (.lload_n 1, 1) := by decide +kernel
theorem dX7_residualSum_39 : decode cX7_residualSum 39 = .ok (.lload 4, 2) := by decide +kernel
theorem dX7_residualSum_41 : decode cX7_residualSum 41 = .ok (.invokestatic 294, 3) := by decide +kernel
theorem dX7_residualSum_44 : decode cX7_residualSum 44 = .ok (.aload_n 0, 1) := by decide +kernel
theorem dX7_residualSum_45 : decode cX7_residualSum 45 = .ok (.getfield 51, 3) := by decide +kernel
theorem dX7_residualSum_48 : decode cX7_residualSum 48 = .ok (.iload_n 3, 1) := by decide +kernel
theorem dX7_residualSum_49 : decode cX7_residualSum 49 = .ok (.invokevirtual 149, 3) := by decide +kernel
theorem dX7_residualSum_52 : decode cX7_residualSum 52 = .ok (.i2l, 1) := by decide +kernel
theorem dX7_residualSum_53 : decode cX7_residualSum 53 = .ok (.lmul, 1) := by decide +kernel
theorem dX7_residualSum_54 : decode cX7_residualSum 54 = .ok (.ladd, 1) := by decide +kernel
theorem dX7_residualSum_55 : decode cX7_residualSum 55 = .ok (.lstore_n 1, 1) := by decide +kernel
theorem dX7_residualSum_56 : decode cX7_residualSum 56 = .ok (.iinc 3 1, 3) := by decide +kernel
theorem dX7_residualSum_59 : decode cX7_residualSum 59 = .ok (.goto (-55), 3) := by decide +kernel
theorem dX7_residualSum_62 : decode cX7_residualSum 62 = .ok (.lload_n 1, 1) := by decide +kernel
theorem dX7_residualSum_63 : decode cX7_residualSum 63 = .ok (.lreturn, 1) := by decide +kernel
theorem dX7_redundancy_0 : decode cX7_redundancy 0 = .ok (.aload_n 0, 1) := by decide +kernel
theorem dX7_redundancy_1 : decode cX7_redundancy 1 = .ok (.getfield 37, 3) := by decide +kernel
theorem dX7_redundancy_4 : decode cX7_redundancy 4 = .ok (.aload_n 0, 1) := by decide +kernel
theorem dX7_redundancy_5 : decode cX7_redundancy 5 = .ok (.getfield 51, 3) := by decide +kernel
theorem dX7_redundancy_8 : decode cX7_redundancy 8 = .ok (.invokevirtual 181, 3) := by decide +kernel
theorem dX7_redundancy_11 : decode cX7_redundancy 11 = .ok (.iconst 0, 1) := by decide +kernel
theorem dX7_redundancy_12 : decode cX7_redundancy 12 = .ok (.istore_n 1, 1) := by decide +kernel
theorem dX7_redundancy_13 : decode cX7_redundancy 13 = .ok (.iconst 0, 1) := by decide +kernel
theorem dX7_redundancy_14 : decode cX7_redundancy 14 = .ok (.istore_n 2, 1) := by decide +kernel
theorem dX7_redundancy_15 : decode cX7_redundancy 15 = .ok (.iload_n 2, 1) := by decide +kernel
theorem dX7_redundancy_16 : decode cX7_redundancy 16 = .ok (.aload_n 0, 1) := by decide +kernel
theorem dX7_redundancy_17 : decode cX7_redundancy 17 = .ok (.getfield 51, 3) := by decide +kernel
theorem dX7_redundancy_20 : decode cX7_redundancy 20 = .ok (.getfield 89, 3) := by decide +kernel
theorem dX7_redundancy_23 : decode cX7_redundancy 23 = .ok (.if_icmp .ge 71, 3) := by decide +kernel
theorem dX7_redundancy_26 : decode cX7_redundancy 26 = .ok (.aload_n 0, 1) := by decide +kernel
theorem dX7_redundancy_27 : decode cX7_redundancy 27 = .ok (.getfield 51, 3) := by decide +kernel
theorem dX7_redundancy_30 : decode cX7_redundancy 30 = .ok (.iload_n 2, 1) := by decide +kernel
theorem dX7_redundancy_31 : decode cX7_redundancy 31 = .ok (.invokevirtual 142, 3) := by decide +kernel
theorem dX7_redundancy_34 : decode cX7_redundancy 34 = .ok (.ifCond .eq 54, 3) := by decide +kernel
theorem dX7_redundancy_37 : decode cX7_redundancy 37 = .ok (.aload_n 0, 1) := by decide +kernel
theorem dX7_redundancy_38 : decode cX7_redundancy 38 = .ok (.getfield 37, 3) := by decide +kernel
theorem dX7_redundancy_41 : decode cX7_redundancy 41 = .ok (.getfield 185, 3) := by decide +kernel
theorem dX7_redundancy_44 : decode cX7_redundancy 44 = .ok (.aload_n 0, 1) := by decide +kernel
theorem dX7_redundancy_45 : decode cX7_redundancy 45 = .ok (.getfield 51, 3) := by decide +kernel
theorem dX7_redundancy_48 : decode cX7_redundancy 48 = .ok (.getfield 130, 3) := by decide +kernel
theorem dX7_redundancy_51 : decode cX7_redundancy 51 = .ok (.iload_n 2, 1) := by decide +kernel
theorem dX7_redundancy_52 : decode cX7_redundancy 52 = .ok (.iaload, 1) := by decide +kernel
theorem dX7_redundancy_53 : decode cX7_redundancy 53 = .ok (.laload, 1) := by decide +kernel
theorem dX7_redundancy_54 : decode cX7_redundancy 54 = .ok (.ldc2_w 179, 3) := by decide +kernel
theorem dX7_redundancy_57 : decode cX7_redundancy 57 = .ok (.lcmp, 1) := by decide +kernel
theorem dX7_redundancy_58 : decode cX7_redundancy 58 = .ok (.ifCond .eq 30, 3) := by decide +kernel
theorem dX7_redundancy_61 : decode cX7_redundancy 61 = .ok (.aload_n 0, 1) := by decide +kernel
theorem dX7_redundancy_62 : decode cX7_redundancy 62 = .ok (.getfield 37, 3) := by decide +kernel
theorem dX7_redundancy_65 : decode cX7_redundancy 65 = .ok (.getfield 185, 3) := by decide +kernel
theorem dX7_redundancy_68 : decode cX7_redundancy 68 = .ok (.aload_n 0, 1) := by decide +kernel
theorem dX7_redundancy_69 : decode cX7_redundancy 69 = .ok (.getfield 51, 3) := by decide +kernel
theorem dX7_redundancy_72 : decode cX7_redundancy 72 = .ok (.getfield 133, 3) := by decide +kernel
theorem dX7_redundancy_75 : decode cX7_redundancy 75 = .ok (.iload_n 2, 1) := by decide +kernel
theorem dX7_redundancy_76 : decode cX7_redundancy 76 = .ok (.iaload, 1) := by decide +kernel
theorem dX7_redundancy_77 : decode cX7_redundancy 77 = .ok (.laload, 1) := by decide +kernel
theorem dX7_redundancy_78 : decode cX7_redundancy 78 = .ok (.ldc2_w 179, 3) := by decide +kernel
theorem dX7_redundancy_81 : decode cX7_redundancy 81 = .ok (.lcmp, 1) := by decide +kernel
theorem dX7_redundancy_82 : decode cX7_redundancy 82 = .ok (.ifCond .eq 6, 3) := by decide +kernel
theorem dX7_redundancy_85 : decode cX7_redundancy 85 = .ok (.iinc 1 1, 3) := by decide +kernel
theorem dX7_redundancy_88 : decode cX7_redundancy 88 = .ok (.iinc 2 1, 3) := by decide +kernel
theorem dX7_redundancy_91 : decode cX7_redundancy 91 = .ok (.goto (-76), 3) := by decide +kernel
theorem dX7_redundancy_94 : decode cX7_redundancy 94 = .ok (.iconst 0, 1) := by decide +kernel
theorem dX7_redundancy_95 : decode cX7_redundancy 95 = .ok (.istore_n 2, 1) := by decide +kernel
theorem dX7_redundancy_96 : decode cX7_redundancy 96 = .ok (.iload_n 2, 1) := by decide +kernel
theorem dX7_redundancy_97 : decode cX7_redundancy 97 = .ok (.aload_n 0, 1) := by decide +kernel
theorem dX7_redundancy_98 : decode cX7_redundancy 98 = .ok (.getfield 51, 3) := by decide +kernel
theorem dX7_redundancy_101 : decode cX7_redundancy 101 = .ok (.getfield 86, 3) := by decide +kernel
theorem dX7_redundancy_104 : decode cX7_redundancy 104 = .ok (.if_icmp .ge 41, 3) := by decide +kernel
theorem dX7_redundancy_107 : decode cX7_redundancy 107 = .ok (.aload_n 0, 1) := by decide +kernel
theorem dX7_redundancy_108 : decode cX7_redundancy 108 = .ok (.getfield 37, 3) := by decide +kernel
theorem dX7_redundancy_111 : decode cX7_redundancy 111 = .ok (.getfield 185, 3) := by decide +kernel
theorem dX7_redundancy_114 : decode cX7_redundancy 114 = .ok (.iload_n 2, 1) := by decide +kernel
theorem dX7_redundancy_115 : decode cX7_redundancy 115 = .ok (.laload, 1) := by decide +kernel
theorem dX7_redundancy_116 : decode cX7_redundancy 116 = .ok (.ldc2_w 179, 3) := by decide +kernel
theorem dX7_redundancy_119 : decode cX7_redundancy 119 = .ok (.lcmp, 1) := by decide +kernel
theorem dX7_redundancy_120 : decode cX7_redundancy 120 = .ok (.ifCond .eq 19, 3) := by decide +kernel
theorem dX7_redundancy_123 : decode cX7_redundancy 123 = .ok (.aload_n 0, 1) := by decide +kernel
theorem dX7_redundancy_124 : decode cX7_redundancy 124 = .ok (.getfield 51, 3) := by decide +kernel
theorem dX7_redundancy_127 : decode cX7_redundancy 127 = .ok (.getfield 127, 3) := by decide +kernel
theorem dX7_redundancy_130 : decode cX7_redundancy 130 = .ok (.iload_n 2, 1) := by decide +kernel
theorem dX7_redundancy_131 : decode cX7_redundancy 131 = .ok (.iaload, 1) := by decide +kernel
theorem dX7_redundancy_132 : decode cX7_redundancy 132 = .ok (.iconst (-1), 1) := by decide +kernel
theorem dX7_redundancy_133 : decode cX7_redundancy 133 = .ok (.if_icmp .ne 6, 3) := by decide +kernel
theorem dX7_redundancy_136 : decode cX7_redundancy 136 = .ok (.iinc 1 (-1), 3) := by decide +kernel
theorem dX7_redundancy_139 : decode cX7_redundancy 139 = .ok (.iinc 2 1, 3) := by decide +kernel
theorem dX7_redundancy_142 : decode cX7_redundancy 142 = .ok (.goto (-46), 3) := by decide +kernel
theorem dX7_redundancy_145 : decode cX7_redundancy 145 = .ok (.iload_n 1, 1) := by decide +kernel
theorem dX7_redundancy_146 : decode cX7_redundancy 146 = .ok (.ireturn, 1) := by decide +kernel
theorem dX7_totalLength_0 : decode cX7_totalLength 0 = .ok (.iconst 0, 1) := by decide +kernel
theorem dX7_totalLength_1 : decode cX7_totalLength 1 = .ok (.istore_n 1, 1) := by decide +kernel
theorem dX7_totalLength_2 : decode cX7_totalLength 2 = .ok (.iconst 0, 1) := by decide +kernel
theorem dX7_totalLength_3 : decode cX7_totalLength 3 = .ok (.istore_n 2, 1) := by decide +kernel
theorem dX7_totalLength_4 : decode cX7_totalLength 4 = .ok (.iload_n 2, 1) := by decide +kernel
theorem dX7_totalLength_5 : decode cX7_totalLength 5 = .ok (.aload_n 0, 1) := by decide +kernel
theorem dX7_totalLength_6 : decode cX7_totalLength 6 = .ok (.getfield 51, 3) := by decide +kernel
theorem dX7_totalLength_9 : decode cX7_totalLength 9 = .ok (.getfield 89, 3) := by decide +kernel
theorem dX7_totalLength_12 : decode cX7_totalLength 12 = .ok (.if_icmp .ge 31, 3) := by decide +kernel
theorem dX7_totalLength_15 : decode cX7_totalLength 15 = .ok (.aload_n 0, 1) := by decide +kernel
theorem dX7_totalLength_16 : decode cX7_totalLength 16 = .ok (.getfield 51, 3) := by decide +kernel
theorem dX7_totalLength_19 : decode cX7_totalLength 19 = .ok (.iload_n 2, 1) := by decide +kernel
theorem dX7_totalLength_20 : decode cX7_totalLength 20 = .ok (.invokevirtual 142, 3) := by decide +kernel
theorem dX7_totalLength_23 : decode cX7_totalLength 23 = .ok (.ifCond .eq 14, 3) := by decide +kernel
theorem dX7_totalLength_26 : decode cX7_totalLength 26 = .ok (.iload_n 1, 1) := by decide +kernel
theorem dX7_totalLength_27 : decode cX7_totalLength 27 = .ok (.aload_n 0, 1) := by decide +kernel
theorem dX7_totalLength_28 : decode cX7_totalLength 28 = .ok (.getfield 51, 3) := by decide +kernel
theorem dX7_totalLength_31 : decode cX7_totalLength 31 = .ok (.iload_n 2, 1) := by decide +kernel
theorem dX7_totalLength_32 : decode cX7_totalLength 32 = .ok (.invokevirtual 146, 3) := by decide +kernel
theorem dX7_totalLength_35 : decode cX7_totalLength 35 = .ok (.iadd, 1) := by decide +kernel
theorem dX7_totalLength_36 : decode cX7_totalLength 36 = .ok (.istore_n 1, 1) := by decide +kernel
theorem dX7_totalLength_37 : decode cX7_totalLength 37 = .ok (.iinc 2 1, 3) := by decide +kernel
theorem dX7_totalLength_40 : decode cX7_totalLength 40 = .ok (.goto (-36), 3) := by decide +kernel
theorem dX7_totalLength_43 : decode cX7_totalLength 43 = .ok (.iload_n 1, 1) := by decide +kernel
theorem dX7_totalLength_44 : decode cX7_totalLength 44 = .ok (.ireturn, 1) := by decide +kernel
theorem dX7_keepBefore_0 : decode cX7_keepBefore 0 = .ok (.aload_n 0, 1) := by decide +kernel
theorem dX7_keepBefore_1 : decode cX7_keepBefore 1 = .ok (.getfield 44, 3) := by decide +kernel
theorem dX7_keepBefore_4 : decode cX7_keepBefore 4 = .ok (.iload_n 1, 1) := by decide +kernel
theorem dX7_keepBefore_5 : decode cX7_keepBefore 5 = .ok (.iload_n 2, 1) := by decide +kernel
theorem dX7_keepBefore_6 : decode cX7_keepBefore 6 = .ok (.iload_n 3, 1) := by decide +kernel
theorem dX7_keepBefore_7 : decode cX7_keepBefore 7 = .ok (.aload_n 0, 1) := by decide +kernel
theorem dX7_keepBefore_8 : decode cX7_keepBefore 8 = .ok (.getfield 37, 3) := by decide +kernel
theorem dX7_keepBefore_11 : decode cX7_keepBefore 11 = .ok (.invokevirtual 324, 3) := by decide +kernel
theorem dX7_keepBefore_14 : decode cX7_keepBefore 14 = .ok (.aload_n 0, 1) := by decide +kernel
theorem dX7_keepBefore_15 : decode cX7_keepBefore 15 = .ok (.getfield 37, 3) := by decide +kernel
theorem dX7_keepBefore_18 : decode cX7_keepBefore 18 = .ok (.iconst 0, 1) := by decide +kernel
theorem dX7_keepBefore_19 : decode cX7_keepBefore 19 = .ok (.putfield 76, 3) := by decide +kernel
theorem dX7_keepBefore_22 : decode cX7_keepBefore 22 = .ok (.return_, 1) := by decide +kernel
theorem dX7_hold_0 : decode cX7_hold 0 = .ok (.iload_n 1, 1) := by decide +kernel
theorem dX7_hold_1 : decode cX7_hold 1 = .ok (.aload_n 0, 1) := by decide +kernel
theorem dX7_hold_2 : decode cX7_hold 2 = .ok (.getfield 51, 3) := by decide +kernel
theorem dX7_hold_5 : decode cX7_hold 5 = .ok (.getfield 86, 3) := by decide +kernel
theorem dX7_hold_8 : decode cX7_hold 8 = .ok (.invokestatic 102, 3) := by decide +kernel
theorem dX7_hold_11 : decode cX7_hold 11 = .ok (.ifCond .ne 5, 3) := by decide +kernel
theorem dX7_hold_14 : decode cX7_hold 14 = .ok (.iconst (-1), 1) := by decide +kernel
theorem dX7_hold_15 : decode cX7_hold 15 = .ok (.ireturn, 1) := by decide +kernel
theorem dX7_hold_16 : decode cX7_hold 16 = .ok (.iload_n 2, 1) := by decide +kernel
theorem dX7_hold_17 : decode cX7_hold 17 = .ok (.ifCond .lt 10, 3) := by decide +kernel
theorem dX7_hold_20 : decode cX7_hold 20 = .ok (.iload_n 2, 1) := by decide +kernel
theorem dX7_hold_21 : decode cX7_hold 21 = .ok (.ldc_w 297, 3) := by decide +kernel
theorem dX7_hold_24 : decode cX7_hold 24 = .ok (.if_icmp .le 6, 3) := by decide +kernel
theorem dX7_hold_27 : decode cX7_hold 27 = .ok (.bipush (-2), 2) := by decide +kernel
theorem dX7_hold_29 : decode cX7_hold 29 = .ok (.ireturn, 1) := by decide +kernel
theorem dX7_hold_30 : decode cX7_hold 30 = .ok (.aload_n 0, 1) := by decide +kernel
theorem dX7_hold_31 : decode cX7_hold 31 = .ok (.iconst 0, 1) := by decide +kernel
theorem dX7_hold_32 : decode cX7_hold 32 = .ok (.iload_n 1, 1) := by decide +kernel
theorem dX7_hold_33 : decode cX7_hold 33 = .ok (.aload_n 0, 1) := by decide +kernel
theorem dX7_hold_34 : decode cX7_hold 34 = .ok (.getfield 51, 3) := by decide +kernel
theorem dX7_hold_37 : decode cX7_hold 37 = .ok (.getfield 127, 3) := by decide +kernel
theorem dX7_hold_40 : decode cX7_hold 40 = .ok (.iload_n 1, 1) := by decide +kernel
theorem dX7_hold_41 : decode cX7_hold 41 = .ok (.iaload, 1) := by decide +kernel
theorem dX7_hold_42 : decode cX7_hold 42 = .ok (.invokevirtual 298, 3) := by decide +kernel
theorem dX7_hold_45 : decode cX7_hold 45 = .ok (.aload_n 0, 1) := by decide +kernel
theorem dX7_hold_46 : decode cX7_hold 46 = .ok (.getfield 51, 3) := by decide +kernel
theorem dX7_hold_49 : decode cX7_hold 49 = .ok (.getfield 127, 3) := by decide +kernel
theorem dX7_hold_52 : decode cX7_hold 52 = .ok (.iload_n 1, 1) := by decide +kernel
theorem dX7_hold_53 : decode cX7_hold 53 = .ok (.iload_n 2, 1) := by decide +kernel
theorem dX7_hold_54 : decode cX7_hold 54 = .ok (.iastore, 1) := by decide +kernel
theorem dX7_hold_55 : decode cX7_hold 55 = .ok (.aload_n 0, 1) := by decide +kernel
theorem dX7_hold_56 : decode cX7_hold 56 = .ok (.getfield 51, 3) := by decide +kernel
theorem dX7_hold_59 : decode cX7_hold 59 = .ok (.invokevirtual 302, 3) := by decide +kernel
theorem dX7_hold_62 : decode cX7_hold 62 = .ok (.ireturn, 1) := by decide +kernel
theorem dX7_release_0 : decode cX7_release 0 = .ok (.iload_n 1, 1) := by decide +kernel
theorem dX7_release_1 : decode cX7_release 1 = .ok (.aload_n 0, 1) := by decide +kernel
theorem dX7_release_2 : decode cX7_release 2 = .ok (.getfield 51, 3) := by decide +kernel
theorem dX7_release_5 : decode cX7_release 5 = .ok (.getfield 86, 3) := by decide +kernel
theorem dX7_release_8 : decode cX7_release 8 = .ok (.invokestatic 102, 3) := by decide +kernel
theorem dX7_release_11 : decode cX7_release 11 = .ok (.ifCond .eq 16, 3) := by decide +kernel
theorem dX7_release_14 : decode cX7_release 14 = .ok (.aload_n 0, 1) := by decide +kernel
theorem dX7_release_15 : decode cX7_release 15 = .ok (.getfield 51, 3) := by decide +kernel
theorem dX7_release_18 : decode cX7_release 18 = .ok (.getfield 127, 3) := by decide +kernel
theorem dX7_release_21 : decode cX7_release 21 = .ok (.iload_n 1, 1) := by decide +kernel
theorem dX7_release_22 : decode cX7_release 22 = .ok (.iaload, 1) := by decide +kernel
theorem dX7_release_23 : decode cX7_release 23 = .ok (.iconst (-1), 1) := by decide +kernel
theorem dX7_release_24 : decode cX7_release 24 = .ok (.if_icmp .ne 5, 3) := by decide +kernel
theorem dX7_release_27 : decode cX7_release 27 = .ok (.iconst (-1), 1) := by decide +kernel
theorem dX7_release_28 : decode cX7_release 28 = .ok (.ireturn, 1) := by decide +kernel
theorem dX7_release_29 : decode cX7_release 29 = .ok (.aload_n 0, 1) := by decide +kernel
theorem dX7_release_30 : decode cX7_release 30 = .ok (.iconst 0, 1) := by decide +kernel
theorem dX7_release_31 : decode cX7_release 31 = .ok (.iload_n 1, 1) := by decide +kernel
theorem dX7_release_32 : decode cX7_release 32 = .ok (.aload_n 0, 1) := by decide +kernel
theorem dX7_release_33 : decode cX7_release 33 = .ok (.getfield 51, 3) := by decide +kernel
theorem dX7_release_36 : decode cX7_release 36 = .ok (.getfield 127, 3) := by decide +kernel
theorem dX7_release_39 : decode cX7_release 39 = .ok (.iload_n 1, 1) := by decide +kernel
theorem dX7_release_40 : decode cX7_release 40 = .ok (.iaload, 1) := by decide +kernel
theorem dX7_release_41 : decode cX7_release 41 = .ok (.invokevirtual 298, 3) := by decide +kernel
theorem dX7_release_44 : decode cX7_release 44 = .ok (.aload_n 0, 1) := by decide +kernel
theorem dX7_release_45 : decode cX7_release 45 = .ok (.getfield 51, 3) := by decide +kernel
theorem dX7_release_48 : decode cX7_release 48 = .ok (.getfield 127, 3) := by decide +kernel
theorem dX7_release_51 : decode cX7_release 51 = .ok (.iload_n 1, 1) := by decide +kernel
theorem dX7_release_52 : decode cX7_release 52 = .ok (.iconst (-1), 1) := by decide +kernel
theorem dX7_release_53 : decode cX7_release 53 = .ok (.iastore, 1) := by decide +kernel
theorem dX7_release_54 : decode cX7_release 54 = .ok (.aload_n 0, 1) := by decide +kernel
theorem dX7_release_55 : decode cX7_release 55 = .ok (.getfield 51, 3) := by decide +kernel
theorem dX7_release_58 : decode cX7_release 58 = .ok (.invokevirtual 302, 3) := by decide +kernel
theorem dX7_release_61 : decode cX7_release 61 = .ok (.ireturn, 1) := by decide +kernel
theorem dX7_fits_0 : decode cX7_fits 0 = .ok (.iload_n 1, 1) := by decide +kernel
theorem dX7_fits_1 : decode cX7_fits 1 = .ok (.getstatic 335, 3) := by decide +kernel
theorem dX7_fits_4 : decode cX7_fits 4 = .ok (.iload_n 0, 1) := by decide +kernel
theorem dX7_fits_5 : decode cX7_fits 5 = .ok (.iaload, 1) := by decide +kernel
theorem dX7_fits_6 : decode cX7_fits 6 = .ok (.if_icmp .lt 16, 3) := by decide +kernel
theorem dX7_fits_9 : decode cX7_fits 9 = .ok (.iload_n 1, 1) := by decide +kernel
theorem dX7_fits_10 : decode cX7_fits 10 = .ok (.getstatic 338, 3) := by decide +kernel
theorem dX7_fits_13 : decode cX7_fits 13 = .ok (.iload_n 0, 1) := by decide +kernel
theorem dX7_fits_14 : decode cX7_fits 14 = .ok (.iaload, 1) := by decide +kernel
theorem dX7_fits_15 : decode cX7_fits 15 = .ok (.if_icmp .gt 7, 3) := by decide +kernel
theorem dX7_fits_18 : decode cX7_fits 18 = .ok (.iconst 1, 1) := by decide +kernel
theorem dX7_fits_19 : decode cX7_fits 19 = .ok (.goto 4, 3) := by decide +kernel
theorem dX7_fits_22 : decode cX7_fits 22 = .ok (.iconst 0, 1) := by decide +kernel
theorem dX7_fits_23 : decode cX7_fits 23 = .ok (.ireturn, 1) := by decide +kernel
theorem dX7_setReading_0 : decode cX7_setReading 0 = .ok (.iload_n 1, 1) := by decide +kernel
theorem dX7_setReading_1 : decode cX7_setReading 1 = .ok (.aload_n 0, 1) := by decide +kernel
theorem dX7_setReading_2 : decode cX7_setReading 2 = .ok (.getfield 51, 3) := by decide +kernel
theorem dX7_setReading_5 : decode cX7_setReading 5 = .ok (.getfield 89, 3) := by decide +kernel
theorem dX7_setReading_8 : decode cX7_setReading 8 = .ok (.invokestatic 102, 3) := by decide +kernel
theorem dX7_setReading_11 : decode cX7_setReading 11 = .ok (.ifCond .eq 15, 3) := by decide +kernel
theorem dX7_setReading_14 : decode cX7_setReading 14 = .ok (.aload_n 0, 1) := by decide +kernel
theorem dX7_setReading_15 : decode cX7_setReading 15 = .ok (.getfield 51, 3) := by decide +kernel
theorem dX7_setReading_18 : decode cX7_setReading 18 = .ok (.iload_n 1, 1) := by decide +kernel
theorem dX7_setReading_19 : decode cX7_setReading 19 = .ok (.iload_n 2, 1) := by decide +kernel
theorem dX7_setReading_20 : decode cX7_setReading 20 = .ok (.invokevirtual 152, 3) := by decide +kernel
theorem dX7_setReading_23 : decode cX7_setReading 23 = .ok (.ifCond .ne 5, 3) := by decide +kernel
theorem dX7_setReading_26 : decode cX7_setReading 26 = .ok (.iconst (-1), 1) := by decide +kernel
theorem dX7_setReading_27 : decode cX7_setReading 27 = .ok (.ireturn, 1) := by decide +kernel
theorem dX7_setReading_28 : decode cX7_setReading 28 = .ok (.iload_n 3, 1) := by decide +kernel
theorem dX7_setReading_29 : decode cX7_setReading 29 = .ok (.iconst 4, 1) := by decide +kernel
theorem dX7_setReading_30 : decode cX7_setReading 30 = .ok (.invokestatic 102, 3) := by decide +kernel
theorem dX7_setReading_33 : decode cX7_setReading 33 = .ok (.ifCond .eq 12, 3) := by decide +kernel
theorem dX7_setReading_36 : decode cX7_setReading 36 = .ok (.iload_n 3, 1) := by decide +kernel
theorem dX7_setReading_37 : decode cX7_setReading 37 = .ok (.iload 4, 2) := by decide +kernel
theorem dX7_setReading_39 : decode cX7_setReading 39 = .ok (.invokestatic 305, 3) := by decide +kernel
theorem dX7_setReading_42 : decode cX7_setReading 42 = .ok (.ifCond .ne 6, 3) := by decide +kernel
theorem dX7_setReading_45 : decode cX7_setReading 45 = .ok (.bipush (-2), 2) := by decide +kernel
theorem dX7_setReading_47 : decode cX7_setReading 47 = .ok (.ireturn, 1) := by decide +kernel
theorem dX7_setReading_48 : decode cX7_setReading 48 = .ok (.aload_n 0, 1) := by decide +kernel
theorem dX7_setReading_49 : decode cX7_setReading 49 = .ok (.getfield 51, 3) := by decide +kernel
theorem dX7_setReading_52 : decode cX7_setReading 52 = .ok (.iload_n 1, 1) := by decide +kernel
theorem dX7_setReading_53 : decode cX7_setReading 53 = .ok (.iload_n 2, 1) := by decide +kernel
theorem dX7_setReading_54 : decode cX7_setReading 54 = .ok (.invokevirtual 158, 3) := by decide +kernel
theorem dX7_setReading_57 : decode cX7_setReading 57 = .ok (.iload_n 3, 1) := by decide +kernel
theorem dX7_setReading_58 : decode cX7_setReading 58 = .ok (.iadd, 1) := by decide +kernel
theorem dX7_setReading_59 : decode cX7_setReading 59 = .ok (.istore 5, 2) := by decide +kernel
theorem dX7_setReading_61 : decode cX7_setReading 61 = .ok (.aload_n 0, 1) := by decide +kernel
theorem dX7_setReading_62 : decode cX7_setReading 62 = .ok (.getfield 51, 3) := by decide +kernel
theorem dX7_setReading_65 : decode cX7_setReading 65 = .ok (.getfield 155, 3) := by decide +kernel
theorem dX7_setReading_68 : decode cX7_setReading 68 = .ok (.iload 5, 2) := by decide +kernel
theorem dX7_setReading_70 : decode cX7_setReading 70 = .ok (.iaload, 1) := by decide +kernel
theorem dX7_setReading_71 : decode cX7_setReading 71 = .ok (.istore 6, 2) := by decide +kernel
theorem dX7_setReading_73 : decode cX7_setReading 73 = .ok (.aload_n 0, 1) := by decide +kernel
theorem dX7_setReading_74 : decode cX7_setReading 74 = .ok (.iconst 1, 1) := by decide +kernel
theorem dX7_setReading_75 : decode cX7_setReading 75 = .ok (.iload 5, 2) := by decide +kernel
theorem dX7_setReading_77 : decode cX7_setReading 77 = .ok (.iload 6, 2) := by decide +kernel
theorem dX7_setReading_79 : decode cX7_setReading 79 = .ok (.invokevirtual 298, 3) := by decide +kernel
theorem dX7_setReading_82 : decode cX7_setReading 82 = .ok (.aload_n 0, 1) := by decide +kernel
theorem dX7_setReading_83 : decode cX7_setReading 83 = .ok (.getfield 51, 3) := by decide +kernel
theorem dX7_setReading_86 : decode cX7_setReading 86 = .ok (.getfield 155, 3) := by decide +kernel
theorem dX7_setReading_89 : decode cX7_setReading 89 = .ok (.iload 5, 2) := by decide +kernel
theorem dX7_setReading_91 : decode cX7_setReading 91 = .ok (.iload 4, 2) := by decide +kernel
theorem dX7_setReading_93 : decode cX7_setReading 93 = .ok (.iastore, 1) := by decide +kernel
theorem dX7_setReading_94 : decode cX7_setReading 94 = .ok (.iload 6, 2) := by decide +kernel
theorem dX7_setReading_96 : decode cX7_setReading 96 = .ok (.ireturn, 1) := by decide +kernel
theorem dX7_addSetup_0 : decode cX7_addSetup 0 = .ok (.iload_n 1, 1) := by decide +kernel
theorem dX7_addSetup_1 : decode cX7_addSetup 1 = .ok (.aload_n 0, 1) := by decide +kernel
theorem dX7_addSetup_2 : decode cX7_addSetup 2 = .ok (.getfield 51, 3) := by decide +kernel
theorem dX7_addSetup_5 : decode cX7_addSetup 5 = .ok (.getfield 89, 3) := by decide +kernel
theorem dX7_addSetup_8 : decode cX7_addSetup 8 = .ok (.invokestatic 102, 3) := by decide +kernel
theorem dX7_addSetup_11 : decode cX7_addSetup 11 = .ok (.ifCond .ne 5, 3) := by decide +kernel
theorem dX7_addSetup_14 : decode cX7_addSetup 14 = .ok (.iconst (-1), 1) := by decide +kernel
theorem dX7_addSetup_15 : decode cX7_addSetup 15 = .ok (.ireturn, 1) := by decide +kernel
theorem dX7_addSetup_16 : decode cX7_addSetup 16 = .ok (.iconst 0, 1) := by decide +kernel
theorem dX7_addSetup_17 : decode cX7_addSetup 17 = .ok (.iload_n 2, 1) := by decide +kernel
theorem dX7_addSetup_18 : decode cX7_addSetup 18 = .ok (.invokestatic 305, 3) := by decide +kernel
theorem dX7_addSetup_21 : decode cX7_addSetup 21 = .ok (.ifCond .eq 29, 3) := by decide +kernel
theorem dX7_addSetup_24 : decode cX7_addSetup 24 = .ok (.iconst 1, 1) := by decide +kernel
theorem dX7_addSetup_25 : decode cX7_addSetup 25 = .ok (.iload_n 3, 1) := by decide +kernel
theorem dX7_addSetup_26 : decode cX7_addSetup 26 = .ok (.invokestatic 305, 3) := by decide +kernel
theorem dX7_addSetup_29 : decode cX7_addSetup 29 = .ok (.ifCond .eq 21, 3) := by decide +kernel
theorem dX7_addSetup_32 : decode cX7_addSetup 32 = .ok (.iconst 2, 1) := by decide +kernel
theorem dX7_addSetup_33 : decode cX7_addSetup 33 = .ok (.iload 4, 2) := by decide +kernel
theorem dX7_addSetup_35 : decode cX7_addSetup 35 = .ok (.invokestatic 305, 3) := by decide +kernel
theorem dX7_addSetup_38 : decode cX7_addSetup 38 = .ok (.ifCond .eq 12, 3) := by decide +kernel
theorem dX7_addSetup_41 : decode cX7_addSetup 41 = .ok (.iconst 3, 1) := by decide +kernel
theorem dX7_addSetup_42 : decode cX7_addSetup 42 = .ok (.iload 5, 2) := by decide +kernel
theorem dX7_addSetup_44 : decode cX7_addSetup 44 = .ok (.invokestatic 305, 3) := by decide +kernel
theorem dX7_addSetup_47 : decode cX7_addSetup 47 = .ok (.ifCond .ne 6, 3) := by decide +kernel
theorem dX7_addSetup_50 : decode cX7_addSetup 50 = .ok (.bipush (-2), 2) := by decide +kernel
theorem dX7_addSetup_52 : decode cX7_addSetup 52 = .ok (.ireturn, 1) := by decide +kernel
theorem dX7_addSetup_53 : decode cX7_addSetup 53 = .ok (.aload_n 0, 1) := by decide +kernel
theorem dX7_addSetup_54 : decode cX7_addSetup 54 = .ok (.getfield 51, 3) := by decide +kernel
theorem dX7_addSetup_57 : decode cX7_addSetup 57 = .ok (.getfield 139, 3) := by decide +kernel
theorem dX7_addSetup_60 : decode cX7_addSetup 60 = .ok (.iload_n 1, 1) := by decide +kernel
theorem dX7_addSetup_61 : decode cX7_addSetup 61 = .ok (.iaload, 1) := by decide +kernel
theorem dX7_addSetup_62 : decode cX7_addSetup 62 = .ok (.istore 6, 2) := by decide +kernel
theorem dX7_addSetup_64 : decode cX7_addSetup 64 = .ok (.iload 6, 2) := by decide +kernel
theorem dX7_addSetup_66 : decode cX7_addSetup 66 = .ok (.bipush 8, 2) := by decide +kernel
theorem dX7_addSetup_68 : decode cX7_addSetup 68 = .ok (.if_icmp .lt 6, 3) := by decide +kernel
theorem dX7_addSetup_71 : decode cX7_addSetup 71 = .ok (.bipush (-3), 2) := by decide +kernel
theorem dX7_addSetup_73 : decode cX7_addSetup 73 = .ok (.ireturn, 1) := by decide +kernel
theorem dX7_addSetup_74 : decode cX7_addSetup 74 = .ok (.aload_n 0, 1) := by decide +kernel
theorem dX7_addSetup_75 : decode cX7_addSetup 75 = .ok (.iconst 2, 1) := by decide +kernel
theorem dX7_addSetup_76 : decode cX7_addSetup 76 = .ok (.iload_n 1, 1) := by decide +kernel
theorem dX7_addSetup_77 : decode cX7_addSetup 77 = .ok (.iload 6, 2) := by decide +kernel
theorem dX7_addSetup_79 : decode cX7_addSetup 79 = .ok (.invokevirtual 298, 3) := by decide +kernel
theorem dX7_addSetup_82 : decode cX7_addSetup 82 = .ok (.aload_n 0, 1) := by decide +kernel
theorem dX7_addSetup_83 : decode cX7_addSetup 83 = .ok (.getfield 51, 3) := by decide +kernel
theorem dX7_addSetup_86 : decode cX7_addSetup 86 = .ok (.iload_n 1, 1) := by decide +kernel
theorem dX7_addSetup_87 : decode cX7_addSetup 87 = .ok (.iload 6, 2) := by decide +kernel
theorem dX7_addSetup_89 : decode cX7_addSetup 89 = .ok (.invokevirtual 158, 3) := by decide +kernel
theorem dX7_addSetup_92 : decode cX7_addSetup 92 = .ok (.istore 7, 2) := by decide +kernel
theorem dX7_addSetup_94 : decode cX7_addSetup 94 = .ok (.aload_n 0, 1) := by decide +kernel
theorem dX7_addSetup_95 : decode cX7_addSetup 95 = .ok (.getfield 51, 3) := by decide +kernel
theorem dX7_addSetup_98 : decode cX7_addSetup 98 = .ok (.getfield 155, 3) := by decide +kernel
theorem dX7_addSetup_101 : decode cX7_addSetup 101 = .ok (.iload 7, 2) := by decide +kernel
theorem dX7_addSetup_103 : decode cX7_addSetup 103 = .ok (.iconst 0, 1) := by decide +kernel
theorem dX7_addSetup_104 : decode cX7_addSetup 104 = .ok (.iadd, 1) := by decide +kernel
theorem dX7_addSetup_105 : decode cX7_addSetup 105 = .ok (.iload_n 2, 1) := by decide +kernel
theorem dX7_addSetup_106 : decode cX7_addSetup 106 = .ok (.iastore, 1) := by decide +kernel
theorem dX7_addSetup_107 : decode cX7_addSetup 107 = .ok (.aload_n 0, 1) := by decide +kernel
theorem dX7_addSetup_108 : decode cX7_addSetup 108 = .ok (.getfield 51, 3) := by decide +kernel
theorem dX7_addSetup_111 : decode cX7_addSetup 111 = .ok (.getfield 155, 3) := by decide +kernel
theorem dX7_addSetup_114 : decode cX7_addSetup 114 = .ok (.iload 7, 2) := by decide +kernel
theorem dX7_addSetup_116 : decode cX7_addSetup 116 = .ok (.iconst 1, 1) := by decide +kernel
theorem dX7_addSetup_117 : decode cX7_addSetup 117 = .ok (.iadd, 1) := by decide +kernel
theorem dX7_addSetup_118 : decode cX7_addSetup 118 = .ok (.iload_n 3, 1) := by decide +kernel
theorem dX7_addSetup_119 : decode cX7_addSetup 119 = .ok (.iastore, 1) := by decide +kernel
theorem dX7_addSetup_120 : decode cX7_addSetup 120 = .ok (.aload_n 0, 1) := by decide +kernel
theorem dX7_addSetup_121 : decode cX7_addSetup 121 = .ok (.getfield 51, 3) := by decide +kernel
theorem dX7_addSetup_124 : decode cX7_addSetup 124 = .ok (.getfield 155, 3) := by decide +kernel
theorem dX7_addSetup_127 : decode cX7_addSetup 127 = .ok (.iload 7, 2) := by decide +kernel
theorem dX7_addSetup_129 : decode cX7_addSetup 129 = .ok (.iconst 2, 1) := by decide +kernel
theorem dX7_addSetup_130 : decode cX7_addSetup 130 = .ok (.iadd, 1) := by decide +kernel
theorem dX7_addSetup_131 : decode cX7_addSetup 131 = .ok (.iload 4, 2) := by decide +kernel
theorem dX7_addSetup_133 : decode cX7_addSetup 133 = .ok (.iastore, 1) := by decide +kernel
theorem dX7_addSetup_134 : decode cX7_addSetup 134 = .ok (.aload_n 0, 1) := by decide +kernel
theorem dX7_addSetup_135 : decode cX7_addSetup 135 = .ok (.getfield 51, 3) := by decide +kernel
theorem dX7_addSetup_138 : decode cX7_addSetup 138 = .ok (.getfield 155, 3) := by decide +kernel
theorem dX7_addSetup_141 : decode cX7_addSetup 141 = .ok (.iload 7, 2) := by decide +kernel
theorem dX7_addSetup_143 : decode cX7_addSetup 143 = .ok (.iconst 3, 1) := by decide +kernel
theorem dX7_addSetup_144 : decode cX7_addSetup 144 = .ok (.iadd, 1) := by decide +kernel
theorem dX7_addSetup_145 : decode cX7_addSetup 145 = .ok (.iload 5, 2) := by decide +kernel
theorem dX7_addSetup_147 : decode cX7_addSetup 147 = .ok (.iastore, 1) := by decide +kernel
theorem dX7_addSetup_148 : decode cX7_addSetup 148 = .ok (.aload_n 0, 1) := by decide +kernel
theorem dX7_addSetup_149 : decode cX7_addSetup 149 = .ok (.getfield 51, 3) := by decide +kernel
theorem dX7_addSetup_152 : decode cX7_addSetup 152 = .ok (.getfield 139, 3) := by decide +kernel
theorem dX7_addSetup_155 : decode cX7_addSetup 155 = .ok (.iload_n 1, 1) := by decide +kernel
theorem dX7_addSetup_156 : decode cX7_addSetup 156 = .ok (.iload 6, 2) := by decide +kernel
theorem dX7_addSetup_158 : decode cX7_addSetup 158 = .ok (.iconst 1, 1) := by decide +kernel
theorem dX7_addSetup_159 : decode cX7_addSetup 159 = .ok (.iadd, 1) := by decide +kernel
theorem dX7_addSetup_160 : decode cX7_addSetup 160 = .ok (.iastore, 1) := by decide +kernel
theorem dX7_addSetup_161 : decode cX7_addSetup 161 = .ok (.iload 6, 2) := by decide +kernel
theorem dX7_addSetup_163 : decode cX7_addSetup 163 = .ok (.iconst 1, 1) := by decide +kernel
theorem dX7_addSetup_164 : decode cX7_addSetup 164 = .ok (.iadd, 1) := by decide +kernel
theorem dX7_addSetup_165 : decode cX7_addSetup 165 = .ok (.ireturn, 1) := by decide +kernel
theorem dX7_setActive_0 : decode cX7_setActive 0 = .ok (.iload_n 1, 1) := by decide +kernel
theorem dX7_setActive_1 : decode cX7_setActive 1 = .ok (.aload_n 0, 1) := by decide +kernel
theorem dX7_setActive_2 : decode cX7_setActive 2 = .ok (.getfield 51, 3) := by decide +kernel
theorem dX7_setActive_5 : decode cX7_setActive 5 = .ok (.getfield 89, 3) := by decide +kernel
theorem dX7_setActive_8 : decode cX7_setActive 8 = .ok (.invokestatic 102, 3) := by decide +kernel
theorem dX7_setActive_11 : decode cX7_setActive 11 = .ok (.ifCond .ne 5, 3) := by decide +kernel
theorem dX7_setActive_14 : decode cX7_setActive 14 = .ok (.iconst (-1), 1) := by decide +kernel
theorem dX7_setActive_15 : decode cX7_setActive 15 = .ok (.ireturn, 1) := by decide +kernel
theorem dX7_setActive_16 : decode cX7_setActive 16 = .ok (.aload_n 0, 1) := by decide +kernel
theorem dX7_setActive_17 : decode cX7_setActive 17 = .ok (.iconst 3, 1) := by decide +kernel
theorem dX7_setActive_18 : decode cX7_setActive 18 = .ok (.iload_n 1, 1) := by decide +kernel
theorem dX7_setActive_19 : decode cX7_setActive 19 = .ok (.aload_n 0, 1) := by decide +kernel
theorem dX7_setActive_20 : decode cX7_setActive 20 = .ok (.getfield 51, 3) := by decide +kernel
theorem dX7_setActive_23 : decode cX7_setActive 23 = .ok (.getfield 195, 3) := by decide +kernel
theorem dX7_setActive_26 : decode cX7_setActive 26 = .ok (.invokevirtual 298, 3) := by decide +kernel
theorem dX7_setActive_29 : decode cX7_setActive 29 = .ok (.iload_n 2, 1) := by decide +kernel
theorem dX7_setActive_30 : decode cX7_setActive 30 = .ok (.ifCond .eq 21, 3) := by decide +kernel
theorem dX7_setActive_33 : decode cX7_setActive 33 = .ok (.aload_n 0, 1) := by decide +kernel
theorem dX7_setActive_34 : decode cX7_setActive 34 = .ok (.getfield 51, 3) := by decide +kernel
theorem dX7_setActive_37 : decode cX7_setActive 37 = .ok (.dup, 1) := by decide +kernel
theorem dX7_setActive_38 : decode cX7_setActive 38 = .ok (.getfield 195, 3) := by decide +kernel
theorem dX7_setActive_41 : decode cX7_setActive 41 = .ok (.iconst 1, 1) := by decide +kernel
theorem dX7_setActive_42 : decode cX7_setActive 42 = .ok (.iload_n 1, 1) := by decide +kernel
theorem dX7_setActive_43 : decode cX7_setActive 43 = .ok (.ishl, 1) := by decide +kernel
theorem dX7_setActive_44 : decode cX7_setActive 44 = .ok (.ior, 1) := by decide +kernel
theorem dX7_setActive_45 : decode cX7_setActive 45 = .ok (.putfield 195, 3) := by decide +kernel
theorem dX7_setActive_48 : decode cX7_setActive 48 = .ok (.goto 20, 3) := by decide +kernel
theorem dX7_setActive_51 : decode cX7_setActive 51 = .ok (.aload_n 0, 1) := by decide +kernel
theorem dX7_setActive_52 : decode cX7_setActive 52 = .ok (.getfield 51, 3) := by decide +kernel
theorem dX7_setActive_55 : decode cX7_setActive 55 = .ok (.dup, 1) := by decide +kernel
theorem dX7_setActive_56 : decode cX7_setActive 56 = .ok (.getfield 195, 3) := by decide +kernel
theorem dX7_setActive_59 : decode cX7_setActive 59 = .ok (.iconst 1, 1) := by decide +kernel
theorem dX7_setActive_60 : decode cX7_setActive 60 = .ok (.iload_n 1, 1) := by decide +kernel
theorem dX7_setActive_61 : decode cX7_setActive 61 = .ok (.ishl, 1) := by decide +kernel
theorem dX7_setActive_62 : decode cX7_setActive 62 = .ok (.iconst (-1), 1) := by decide +kernel
theorem dX7_setActive_63 : decode cX7_setActive 63 = .ok (.ixor, 1) := by decide +kernel
theorem dX7_setActive_64 : decode cX7_setActive 64 = .ok (.iand, 1) := by decide +kernel
theorem dX7_setActive_65 : decode cX7_setActive 65 = .ok (.putfield 195, 3) := by decide +kernel
theorem dX7_setActive_68 : decode cX7_setActive 68 = .ok (.aload_n 0, 1) := by decide +kernel
theorem dX7_setActive_69 : decode cX7_setActive 69 = .ok (.invokevirtual 242, 3) := by decide +kernel
theorem dX7_setActive_72 : decode cX7_setActive 72 = .ok (.ireturn, 1) := by decide +kernel
theorem dX7_changeCollimation_0 : decode cX7_changeCollimation 0 = .ok (.aload_n 0, 1) := by decide +kernel
theorem dX7_changeCollimation_1 : decode cX7_changeCollimation 1 = .ok (.getfield 51, 3) := by decide +kernel
theorem dX7_changeCollimation_4 : decode cX7_changeCollimation 4 = .ok (.getfield 114, 3) := by decide +kernel
theorem dX7_changeCollimation_7 : decode cX7_changeCollimation 7 = .ok (.iload_n 1, 1) := by decide +kernel
theorem dX7_changeCollimation_8 : decode cX7_changeCollimation 8 = .ok (.iaload, 1) := by decide +kernel
theorem dX7_changeCollimation_9 : decode cX7_changeCollimation 9 = .ok (.istore_n 3, 1) := by decide +kernel
theorem dX7_changeCollimation_10 : decode cX7_changeCollimation 10 = .ok (.aload_n 0, 1) := by decide +kernel
theorem dX7_changeCollimation_11 : decode cX7_changeCollimation 11 = .ok (.iconst 4, 1) := by decide +kernel
theorem dX7_changeCollimation_12 : decode cX7_changeCollimation 12 = .ok (.iload_n 1, 1) := by decide +kernel
theorem dX7_changeCollimation_13 : decode cX7_changeCollimation 13 = .ok (.iload_n 3, 1) := by decide +kernel
theorem dX7_changeCollimation_14 : decode cX7_changeCollimation 14 = .ok (.invokevirtual 298, 3) := by decide +kernel
theorem dX7_changeCollimation_17 : decode cX7_changeCollimation 17 = .ok (.aload_n 0, 1) := by decide +kernel
theorem dX7_changeCollimation_18 : decode cX7_changeCollimation 18 = .ok (.getfield 51, 3) := by decide +kernel
theorem dX7_changeCollimation_21 : decode cX7_changeCollimation 21 = .ok (.getfield 114, 3) := by decide +kernel
theorem dX7_changeCollimation_24 : decode cX7_changeCollimation 24 = .ok (.iload_n 1, 1) := by decide +kernel
theorem dX7_changeCollimation_25 : decode cX7_changeCollimation 25 = .ok (.iload_n 2, 1) := by decide +kernel
theorem dX7_changeCollimation_26 : decode cX7_changeCollimation 26 = .ok (.iastore, 1) := by decide +kernel
theorem dX7_changeCollimation_27 : decode cX7_changeCollimation 27 = .ok (.iload_n 3, 1) := by decide +kernel
theorem dX7_changeCollimation_28 : decode cX7_changeCollimation 28 = .ok (.ireturn, 1) := by decide +kernel
theorem dX7_setCollimation_0 : decode cX7_setCollimation 0 = .ok (.iload_n 1, 1) := by decide +kernel
theorem dX7_setCollimation_1 : decode cX7_setCollimation 1 = .ok (.aload_n 0, 1) := by decide +kernel
theorem dX7_setCollimation_2 : decode cX7_setCollimation 2 = .ok (.getfield 51, 3) := by decide +kernel
theorem dX7_setCollimation_5 : decode cX7_setCollimation 5 = .ok (.getfield 83, 3) := by decide +kernel
theorem dX7_setCollimation_8 : decode cX7_setCollimation 8 = .ok (.invokestatic 102, 3) := by decide +kernel
theorem dX7_setCollimation_11 : decode cX7_setCollimation 11 = .ok (.ifCond .eq 17, 3) := by decide +kernel
theorem dX7_setCollimation_14 : decode cX7_setCollimation 14 = .ok (.iload_n 2, 1) := by decide +kernel
theorem dX7_setCollimation_15 : decode cX7_setCollimation 15 = .ok (.sipush (-200), 3) := by decide +kernel
theorem dX7_setCollimation_18 : decode cX7_setCollimation 18 = .ok (.if_icmp .lt 10, 3) := by decide +kernel
theorem dX7_setCollimation_21 : decode cX7_setCollimation 21 = .ok (.iload_n 2, 1) := by decide +kernel
theorem dX7_setCollimation_22 : decode cX7_setCollimation 22 = .ok (.sipush 200, 3) := by decide +kernel
theorem dX7_setCollimation_25 : decode cX7_setCollimation 25 = .ok (.if_icmp .le 6, 3) := by decide +kernel
theorem dX7_setCollimation_28 : decode cX7_setCollimation 28 = .ok (.ldc 126, 2) := by decide +kernel
theorem dX7_setCollimation_30 : decode cX7_setCollimation 30 = .ok (.ireturn, 1) := by decide +kernel
theorem dX7_setCollimation_31 : decode cX7_setCollimation 31 = .ok (.aload_n 0, 1) := by decide +kernel
theorem dX7_setCollimation_32 : decode cX7_setCollimation 32 = .ok (.iload_n 1, 1) := by decide +kernel
theorem dX7_setCollimation_33 : decode cX7_setCollimation 33 = .ok (.iload_n 2, 1) := by decide +kernel
theorem dX7_setCollimation_34 : decode cX7_setCollimation 34 = .ok (.invokevirtual 308, 3) := by decide +kernel
theorem dX7_setCollimation_37 : decode cX7_setCollimation 37 = .ok (.ireturn, 1) := by decide +kernel
theorem dX7_applyTest_0 : decode cX7_applyTest 0 = .ok (.iload_n 1, 1) := by decide +kernel
theorem dX7_applyTest_1 : decode cX7_applyTest 1 = .ok (.aload_n 0, 1) := by decide +kernel
theorem dX7_applyTest_2 : decode cX7_applyTest 2 = .ok (.getfield 51, 3) := by decide +kernel
theorem dX7_applyTest_5 : decode cX7_applyTest 5 = .ok (.getfield 92, 3) := by decide +kernel
theorem dX7_applyTest_8 : decode cX7_applyTest 8 = .ok (.invokestatic 102, 3) := by decide +kernel
theorem dX7_applyTest_11 : decode cX7_applyTest 11 = .ok (.ifCond .ne 6, 3) := by decide +kernel
theorem dX7_applyTest_14 : decode cX7_applyTest 14 = .ok (.ldc 126, 2) := by decide +kernel
theorem dX7_applyTest_16 : decode cX7_applyTest 16 = .ok (.ireturn, 1) := by decide +kernel
theorem dX7_applyTest_17 : decode cX7_applyTest 17 = .ok (.aload_n 0, 1) := by decide +kernel
theorem dX7_applyTest_18 : decode cX7_applyTest 18 = .ok (.getfield 51, 3) := by decide +kernel
theorem dX7_applyTest_21 : decode cX7_applyTest 21 = .ok (.iload_n 1, 1) := by decide +kernel
theorem dX7_applyTest_22 : decode cX7_applyTest 22 = .ok (.invokevirtual 120, 3) := by decide +kernel
theorem dX7_applyTest_25 : decode cX7_applyTest 25 = .ok (.istore_n 2, 1) := by decide +kernel
theorem dX7_applyTest_26 : decode cX7_applyTest 26 = .ok (.iload_n 2, 1) := by decide +kernel
theorem dX7_applyTest_27 : decode cX7_applyTest 27 = .ok (.ldc 126, 2) := by decide +kernel
theorem dX7_applyTest_29 : decode cX7_applyTest 29 = .ok (.if_icmp .ne 6, 3) := by decide +kernel
theorem dX7_applyTest_32 : decode cX7_applyTest 32 = .ok (.ldc 126, 2) := by decide +kernel
theorem dX7_applyTest_34 : decode cX7_applyTest 34 = .ok (.ireturn, 1) := by decide +kernel
theorem dX7_applyTest_35 : decode cX7_applyTest 35 = .ok (.aload_n 0, 1) := by decide +kernel
theorem dX7_applyTest_36 : decode cX7_applyTest 36 = .ok (.aload_n 0, 1) := by decide +kernel
theorem dX7_applyTest_37 : decode cX7_applyTest 37 = .ok (.getfield 51, 3) := by decide +kernel
theorem dX7_applyTest_40 : decode cX7_applyTest 40 = .ok (.getfield 117, 3) := by decide +kernel
theorem dX7_applyTest_43 : decode cX7_applyTest 43 = .ok (.iload_n 1, 1) := by decide +kernel
theorem dX7_applyTest_44 : decode cX7_applyTest 44 = .ok (.iaload, 1) := by decide +kernel
theorem dX7_applyTest_45 : decode cX7_applyTest 45 = .ok (.iload_n 2, 1) := by decide +kernel
theorem dX7_applyTest_46 : decode cX7_applyTest 46 = .ok (.invokevirtual 308, 3) := by decide +kernel
theorem dX7_applyTest_49 : decode cX7_applyTest 49 = .ok (.ireturn, 1) := by decide +kernel
theorem dX7_adjust_0 : decode cX7_adjust 0 = .ok (.iload_n 1, 1) := by decide +kernel
theorem dX7_adjust_1 : decode cX7_adjust 1 = .ok (.iconst 1, 1) := by decide +kernel
theorem dX7_adjust_2 : decode cX7_adjust 2 = .ok (.if_icmp .lt 10, 3) := by decide +kernel
theorem dX7_adjust_5 : decode cX7_adjust 5 = .ok (.iload_n 1, 1) := by decide +kernel
theorem dX7_adjust_6 : decode cX7_adjust 6 = .ok (.sipush 200, 3) := by decide +kernel
theorem dX7_adjust_9 : decode cX7_adjust 9 = .ok (.if_icmp .le 6, 3) := by decide +kernel
theorem dX7_adjust_12 : decode cX7_adjust 12 = .ok (.bipush (-2), 2) := by decide +kernel
theorem dX7_adjust_14 : decode cX7_adjust 14 = .ok (.ireturn, 1) := by decide +kernel
theorem dX7_adjust_15 : decode cX7_adjust 15 = .ok (.aload_n 0, 1) := by decide +kernel
theorem dX7_adjust_16 : decode cX7_adjust 16 = .ok (.bipush 6, 2) := by decide +kernel
theorem dX7_adjust_18 : decode cX7_adjust 18 = .ok (.iconst 0, 1) := by decide +kernel
theorem dX7_adjust_19 : decode cX7_adjust 19 = .ok (.iconst 0, 1) := by decide +kernel
theorem dX7_adjust_20 : decode cX7_adjust 20 = .ok (.invokevirtual 298, 3) := by decide +kernel
theorem dX7_adjust_23 : decode cX7_adjust 23 = .ok (.aload_n 0, 1) := by decide +kernel
theorem dX7_adjust_24 : decode cX7_adjust 24 = .ok (.getfield 37, 3) := by decide +kernel
theorem dX7_adjust_27 : decode cX7_adjust 27 = .ok (.aload_n 0, 1) := by decide +kernel
theorem dX7_adjust_28 : decode cX7_adjust 28 = .ok (.getfield 51, 3) := by decide +kernel
theorem dX7_adjust_31 : decode cX7_adjust 31 = .ok (.iload_n 1, 1) := by decide +kernel
theorem dX7_adjust_32 : decode cX7_adjust 32 = .ok (.invokevirtual 311, 3) := by decide +kernel
theorem dX7_adjust_35 : decode cX7_adjust 35 = .ok (.ireturn, 1) := by decide +kernel
theorem dX7_setSetting_0 : decode cX7_setSetting 0 = .ok (.iload_n 1, 1) := by decide +kernel
theorem dX7_setSetting_1 : decode cX7_setSetting 1 = .ok (.iconst 3, 1) := by decide +kernel
theorem dX7_setSetting_2 : decode cX7_setSetting 2 = .ok (.invokestatic 102, 3) := by decide +kernel
theorem dX7_setSetting_5 : decode cX7_setSetting 5 = .ok (.ifCond .eq 21, 3) := by decide +kernel
theorem dX7_setSetting_8 : decode cX7_setSetting 8 = .ok (.iload_n 2, 1) := by decide +kernel
theorem dX7_setSetting_9 : decode cX7_setSetting 9 = .ok (.getstatic 314, 3) := by decide +kernel
theorem dX7_setSetting_12 : decode cX7_setSetting 12 = .ok (.iload_n 1, 1) := by decide +kernel
theorem dX7_setSetting_13 : decode cX7_setSetting 13 = .ok (.iaload, 1) := by decide +kernel
theorem dX7_setSetting_14 : decode cX7_setSetting 14 = .ok (.if_icmp .lt 12, 3) := by decide +kernel
theorem dX7_setSetting_17 : decode cX7_setSetting 17 = .ok (.iload_n 2, 1) := by decide +kernel
theorem dX7_setSetting_18 : decode cX7_setSetting 18 = .ok (.getstatic 317, 3) := by decide +kernel
theorem dX7_setSetting_21 : decode cX7_setSetting 21 = .ok (.iload_n 1, 1) := by decide +kernel
theorem dX7_setSetting_22 : decode cX7_setSetting 22 = .ok (.iaload, 1) := by decide +kernel
theorem dX7_setSetting_23 : decode cX7_setSetting 23 = .ok (.if_icmp .le 6, 3) := by decide +kernel
theorem dX7_setSetting_26 : decode cX7_setSetting 26 = .ok (.bipush (-2), 2) := by decide +kernel
theorem dX7_setSetting_28 : decode cX7_setSetting 28 = .ok (.ireturn, 1) := by decide +kernel
theorem dX7_setSetting_29 : decode cX7_setSetting 29 = .ok (.aload_n 0, 1) := by decide +kernel
theorem dX7_setSetting_30 : decode cX7_setSetting 30 = .ok (.getfield 51, 3) := by decide +kernel
theorem dX7_setSetting_33 : decode cX7_setSetting 33 = .ok (.getfield 106, 3) := by decide +kernel
theorem dX7_setSetting_36 : decode cX7_setSetting 36 = .ok (.iload_n 1, 1) := by decide +kernel
theorem dX7_setSetting_37 : decode cX7_setSetting 37 = .ok (.iaload, 1) := by decide +kernel
theorem dX7_setSetting_38 : decode cX7_setSetting 38 = .ok (.istore_n 3, 1) := by decide +kernel
theorem dX7_setSetting_39 : decode cX7_setSetting 39 = .ok (.aload_n 0, 1) := by decide +kernel
theorem dX7_setSetting_40 : decode cX7_setSetting 40 = .ok (.iconst 5, 1) := by decide +kernel
theorem dX7_setSetting_41 : decode cX7_setSetting 41 = .ok (.iload_n 1, 1) := by decide +kernel
theorem dX7_setSetting_42 : decode cX7_setSetting 42 = .ok (.iload_n 3, 1) := by decide +kernel
theorem dX7_setSetting_43 : decode cX7_setSetting 43 = .ok (.invokevirtual 298, 3) := by decide +kernel
theorem dX7_setSetting_46 : decode cX7_setSetting 46 = .ok (.aload_n 0, 1) := by decide +kernel
theorem dX7_setSetting_47 : decode cX7_setSetting 47 = .ok (.getfield 51, 3) := by decide +kernel
theorem dX7_setSetting_50 : decode cX7_setSetting 50 = .ok (.getfield 106, 3) := by decide +kernel
theorem dX7_setSetting_53 : decode cX7_setSetting 53 = .ok (.iload_n 1, 1) := by decide +kernel
theorem dX7_setSetting_54 : decode cX7_setSetting 54 = .ok (.iload_n 2, 1) := by decide +kernel
theorem dX7_setSetting_55 : decode cX7_setSetting 55 = .ok (.iastore, 1) := by decide +kernel
theorem dX7_setSetting_56 : decode cX7_setSetting 56 = .ok (.iload_n 3, 1) := by decide +kernel
theorem dX7_setSetting_57 : decode cX7_setSetting 57 = .ok (.ireturn, 1) := by decide +kernel
theorem dX7_undo_0 : decode cX7_undo 0 = .ok (.aload_n 0, 1) := by decide +kernel
theorem dX7_undo_1 : decode cX7_undo 1 = .ok (.getfield 44, 3) := by decide +kernel
theorem dX7_undo_4 : decode cX7_undo 4 = .ok (.getfield 80, 3) := by decide +kernel
theorem dX7_undo_7 : decode cX7_undo 7 = .ok (.ifCond .ne 5, 3) := by decide +kernel
theorem dX7_undo_10 : decode cX7_undo 10 = .ok (.iconst (-1), 1) := by decide +kernel
theorem dX7_undo_11 : decode cX7_undo 11 = .ok (.ireturn, 1) := by decide +kernel
theorem dX7_undo_12 : decode cX7_undo 12 = .ok (.aload_n 0, 1) := by decide +kernel
theorem dX7_undo_13 : decode cX7_undo 13 = .ok (.getfield 44, 3) := by decide +kernel
theorem dX7_undo_16 : decode cX7_undo 16 = .ok (.aload_n 0, 1) := by decide +kernel
theorem dX7_undo_17 : decode cX7_undo 17 = .ok (.getfield 51, 3) := by decide +kernel
theorem dX7_undo_20 : decode cX7_undo 20 = .ok (.aload_n 0, 1) := by decide +kernel
theorem dX7_undo_21 : decode cX7_undo 21 = .ok (.getfield 37, 3) := by decide +kernel
theorem dX7_undo_24 : decode cX7_undo 24 = .ok (.invokevirtual 320, 3) := by decide +kernel
theorem dX7_undo_27 : decode cX7_undo 27 = .ok (.aload_n 0, 1) := by decide +kernel
theorem dX7_undo_28 : decode cX7_undo 28 = .ok (.getfield 44, 3) := by decide +kernel
theorem dX7_undo_31 : decode cX7_undo 31 = .ok (.getfield 80, 3) := by decide +kernel
theorem dX7_undo_34 : decode cX7_undo 34 = .ok (.ireturn, 1) := by decide +kernel
def f_X7_feed (p1 : Int32) (p2 : Int32) (p3 : Int32) (p4 : Int32) (p5 : Int32) (μ : gM) : Option (Int32 × gM) :=
  if (((gi μ 1 1) + (20 : Int32)) ≤ (1200 : Int32)) then Option.bind (f_X4_append p1 μ) (fun q2 => Option.bind (f_X4_append p2 q2) (fun q3 => Option.bind (f_X4_append p3 q3) (fun q4 => Option.bind (f_X4_append p4 q4) (fun q5 => Option.bind (f_X4_append p5 q5) (fun q6 => some ((gi q6 1 1), q6)))))) else some ((-3 : Int32), μ)
set_option maxHeartbeats 4000000 in
set_option maxRecDepth 100000 in
theorem c_X7_feed {l : Launch} {D : va_G} {cy : Nat → ClassId} {ad : Nat → Nat} {base : Nat} {p1 : Int32} {p2 : Int32} {p3 : Int32} {p4 : Int32} {p5 : Int32} {μ : gM} {RES : Int32 × gM} (h : f_X7_feed p1 p2 p3 p4 p5 μ = some RES) : Met l yX7_feed [.code yX7_feed cX7_feed 6 (some .int)] ({ frames := 1, cells := 0, slots := 0, locals := 22 } : Room) (va_Pc [.ref (ad 0), .int p1, .int p2, .int p3, .int p4, .int p5] (gB l gFull D cy ad base μ)) (gQ (some (.int RES.1)) gFull D cy ad base RES.2) 0 0 (gA base) := by
  refine Met.ofW (cc := cX7_feed) (maxL := 6) (ret := (some .int)) (by decide) rfl ?_
  intro p e s m args below meth c s₁ B hml0 hv
  obtain ⟨rfl, E, hM⟩ := hv
  have F : gF p s m meth c cX7_feed RX7 6 (some .int) := gF_of B hml0
  obtain ⟨hx, hb, hml, hown, hlocks, hr⟩ := id F
  have hS : va_S (gA base) s.heap s.heap [] := va_S.rf
  have hl := lv_entry ([.ref (ad 0), .int p1, .int p2, .int p3, .int p4, .int p5]) (n := 6) (Nat.le_of_ble_eq_true rfl)
  rw [lg_entry_eq]
  generalize (lg_sl ([.ref (ad 0), .int p1, .int p2, .int p3, .int p4, .int p5]) ++ List.replicate (6 - (lg_sl ([.ref (ad 0), .int p1, .int p2, .int p3, .int p4, .int p5])).length) Slot.unset).toArray = ls at hl ⊢
  have hl : lv_has ls 6 [(0, .ref (ad 0)), (1, .int p1), (2, .int p2), (3, .int p3), (4, .int p4), (5, .int p5)] := hl
  unfold f_X7_feed at h
  refine lv_aload_n hx hb dX7_feed_0 rfl (lv_at hl 0 rfl) ?_
  refine gg_0_0 hx hb hown E hM hk_0 kw_458 dX7_feed_1 ?_
  refine gg_1_1 hx hb hown E hM hk_1 kw_137 dX7_feed_4 ?_
  refine lv_bipush (v := (20 : Int32)) hx hb dX7_feed_7 (by decide) ?_
  refine lv_iadd hx hb dX7_feed_9 ?_
  refine lv_sipush (v := (1200 : Int32)) hx hb dX7_feed_10 (by decide) ?_
  refine lv_icmp_le (tgt := 19) hx hb dX7_feed_13 (by decide) (fun c1 => ?_) (fun c1 => ?_)
  · replace h := gif_t c1 h
    refine lv_aload_n hx hb dX7_feed_19 rfl (lv_at hl 0 rfl) ?_
    refine gg_0_0 hx hb hown E hM hk_0 kw_458 dX7_feed_20 ?_
    refine lv_iload_n hx hb dX7_feed_23 rfl (lv_at hl 1 rfl) ?_
    obtain ⟨q2, hq2, h⟩ := gbind_e h
    refine g_callV (As := [.int p1]) (rest := []) hx hb (hml.trans hl.1.symm) hown E hM hS hy_X4_append kw_487 (c_X4_append hq2) hk_1 dd_1 rfl rfl rfl (Nat.le_of_ble_eq_true rfl) ⟨Nat.le_of_ble_eq_true rfl, Nat.le_of_ble_eq_true rfl⟩ ⟨Nat.le_of_ble_eq_true rfl, Nat.le_of_ble_eq_true rfl⟩ dX7_feed_24 (fun H locs hM hS => ?_)
    refine lv_aload_n hx hb dX7_feed_27 rfl (lv_at hl 0 rfl) ?_
    refine gg_0_0 hx hb hown E hM hk_0 kw_458 dX7_feed_28 ?_
    refine lv_iload_n hx hb dX7_feed_31 rfl (lv_at hl 2 rfl) ?_
    obtain ⟨q3, hq3, h⟩ := gbind_e h
    refine g_callV (As := [.int p2]) (rest := []) hx hb (hml.trans hl.1.symm) hown E hM hS hy_X4_append kw_487 (c_X4_append hq3) hk_1 dd_1 rfl rfl rfl (Nat.le_of_ble_eq_true rfl) ⟨Nat.le_of_ble_eq_true rfl, Nat.le_of_ble_eq_true rfl⟩ ⟨Nat.le_of_ble_eq_true rfl, Nat.le_of_ble_eq_true rfl⟩ dX7_feed_32 (fun H locs hM hS => ?_)
    refine lv_aload_n hx hb dX7_feed_35 rfl (lv_at hl 0 rfl) ?_
    refine gg_0_0 hx hb hown E hM hk_0 kw_458 dX7_feed_36 ?_
    refine lv_iload_n hx hb dX7_feed_39 rfl (lv_at hl 3 rfl) ?_
    obtain ⟨q4, hq4, h⟩ := gbind_e h
    refine g_callV (As := [.int p3]) (rest := []) hx hb (hml.trans hl.1.symm) hown E hM hS hy_X4_append kw_487 (c_X4_append hq4) hk_1 dd_1 rfl rfl rfl (Nat.le_of_ble_eq_true rfl) ⟨Nat.le_of_ble_eq_true rfl, Nat.le_of_ble_eq_true rfl⟩ ⟨Nat.le_of_ble_eq_true rfl, Nat.le_of_ble_eq_true rfl⟩ dX7_feed_40 (fun H locs hM hS => ?_)
    refine lv_aload_n hx hb dX7_feed_43 rfl (lv_at hl 0 rfl) ?_
    refine gg_0_0 hx hb hown E hM hk_0 kw_458 dX7_feed_44 ?_
    refine lv_iload hx hb dX7_feed_47 (lv_at hl 4 rfl) ?_
    obtain ⟨q5, hq5, h⟩ := gbind_e h
    refine g_callV (As := [.int p4]) (rest := []) hx hb (hml.trans hl.1.symm) hown E hM hS hy_X4_append kw_487 (c_X4_append hq5) hk_1 dd_1 rfl rfl rfl (Nat.le_of_ble_eq_true rfl) ⟨Nat.le_of_ble_eq_true rfl, Nat.le_of_ble_eq_true rfl⟩ ⟨Nat.le_of_ble_eq_true rfl, Nat.le_of_ble_eq_true rfl⟩ dX7_feed_49 (fun H locs hM hS => ?_)
    refine lv_aload_n hx hb dX7_feed_52 rfl (lv_at hl 0 rfl) ?_
    refine gg_0_0 hx hb hown E hM hk_0 kw_458 dX7_feed_53 ?_
    refine lv_iload hx hb dX7_feed_56 (lv_at hl 5 rfl) ?_
    obtain ⟨q6, hq6, h⟩ := gbind_e h
    refine g_callV (As := [.int p5]) (rest := []) hx hb (hml.trans hl.1.symm) hown E hM hS hy_X4_append kw_487 (c_X4_append hq6) hk_1 dd_1 rfl rfl rfl (Nat.le_of_ble_eq_true rfl) ⟨Nat.le_of_ble_eq_true rfl, Nat.le_of_ble_eq_true rfl⟩ ⟨Nat.le_of_ble_eq_true rfl, Nat.le_of_ble_eq_true rfl⟩ dX7_feed_58 (fun H locs hM hS => ?_)
    refine lv_aload_n hx hb dX7_feed_61 rfl (lv_at hl 0 rfl) ?_
    refine gg_0_0 hx hb hown E hM hk_0 kw_458 dX7_feed_62 ?_
    refine gg_1_1 hx hb hown E hM hk_1 kw_137 dX7_feed_65 ?_
    obtain rfl := Option.some.inj h
    exact g_iret hx hb hr hlocks hM hS dX7_feed_68
  · replace h := gif_f c1 h
    refine lv_bipush (v := (-3 : Int32)) hx hb dX7_feed_16 (by decide) ?_
    obtain rfl := Option.some.inj h
    exact g_iret hx hb hr hlocks hM hS dX7_feed_18
def f_X7_errorPosition (μ : gM) : Option (Int32) :=
  some (gi μ 0 7)
set_option maxHeartbeats 4000000 in
set_option maxRecDepth 100000 in
theorem c_X7_errorPosition {l : Launch} {D : va_G} {cy : Nat → ClassId} {ad : Nat → Nat} {base : Nat}  {μ : gM} {RES : Int32} (h : f_X7_errorPosition  μ = some RES) : Met l yX7_errorPosition [.code yX7_errorPosition cX7_errorPosition 1 (some .int)] ({ frames := 0, cells := 0, slots := 0, locals := 0 } : Room) (va_Pc [.ref (ad 0)] (gB l gFull D cy ad base μ)) (gQ (some (.int RES)) gFull D cy ad base μ) 0 0 (gA base) := by
  refine Met.ofW (cc := cX7_errorPosition) (maxL := 1) (ret := (some .int)) (by decide) rfl ?_
  intro p e s m args below meth c s₁ B hml0 hv
  obtain ⟨rfl, E, hM⟩ := hv
  have F : gF p s m meth c cX7_errorPosition RX7 1 (some .int) := gF_of B hml0
  obtain ⟨hx, hb, hml, hown, hlocks, hr⟩ := id F
  have hS : va_S (gA base) s.heap s.heap [] := va_S.rf
  have hl := lv_entry ([.ref (ad 0)]) (n := 1) (Nat.le_of_ble_eq_true rfl)
  rw [lg_entry_eq]
  generalize (lg_sl ([.ref (ad 0)]) ++ List.replicate (1 - (lg_sl ([.ref (ad 0)])).length) Slot.unset).toArray = ls at hl ⊢
  have hl : lv_has ls 1 [(0, .ref (ad 0))] := hl
  unfold f_X7_errorPosition at h
  refine lv_aload_n hx hb dX7_errorPosition_0 rfl (lv_at hl 0 rfl) ?_
  refine gg_0_7 hx hb hown E hM hk_0 kw_465 dX7_errorPosition_1 ?_
  obtain rfl := Option.some.inj h
  exact g_iret hx hb hr hlocks hM hS dX7_errorPosition_4
def f_X7_levelCount (μ : gM) : Option (Int32) :=
  some (gi μ 34 0)
set_option maxHeartbeats 4000000 in
set_option maxRecDepth 100000 in
theorem c_X7_levelCount {l : Launch} {D : va_G} {cy : Nat → ClassId} {ad : Nat → Nat} {base : Nat}  {μ : gM} {RES : Int32} (h : f_X7_levelCount  μ = some RES) : Met l yX7_levelCount [.code yX7_levelCount cX7_levelCount 1 (some .int)] ({ frames := 0, cells := 0, slots := 0, locals := 0 } : Room) (va_Pc [.ref (ad 0)] (gB l gFull D cy ad base μ)) (gQ (some (.int RES)) gFull D cy ad base μ) 0 0 (gA base) := by
  refine Met.ofW (cc := cX7_levelCount) (maxL := 1) (ret := (some .int)) (by decide) rfl ?_
  intro p e s m args below meth c s₁ B hml0 hv
  obtain ⟨rfl, E, hM⟩ := hv
  have F : gF p s m meth c cX7_levelCount RX7 1 (some .int) := gF_of B hml0
  obtain ⟨hx, hb, hml, hown, hlocks, hr⟩ := id F
  have hS : va_S (gA base) s.heap s.heap [] := va_S.rf
  have hl := lv_entry ([.ref (ad 0)]) (n := 1) (Nat.le_of_ble_eq_true rfl)
  rw [lg_entry_eq]
  generalize (lg_sl ([.ref (ad 0)]) ++ List.replicate (1 - (lg_sl ([.ref (ad 0)])).length) Slot.unset).toArray = ls at hl ⊢
  have hl : lv_has ls 1 [(0, .ref (ad 0))] := hl
  unfold f_X7_levelCount at h
  refine lv_aload_n hx hb dX7_levelCount_0 rfl (lv_at hl 0 rfl) ?_
  refine gg_0_5 hx hb hown E hM hk_0 kw_463 dX7_levelCount_1 ?_
  refine gg_34_0 hx hb hown E hM hk_34 kw_354 dX7_levelCount_4 ?_
  obtain rfl := Option.some.inj h
  exact g_iret hx hb hr hlocks hM hS dX7_levelCount_7
def f_X7_pointCount (μ : gM) : Option (Int32) :=
  some (gi μ 34 1)
set_option maxHeartbeats 4000000 in
set_option maxRecDepth 100000 in
theorem c_X7_pointCount {l : Launch} {D : va_G} {cy : Nat → ClassId} {ad : Nat → Nat} {base : Nat}  {μ : gM} {RES : Int32} (h : f_X7_pointCount  μ = some RES) : Met l yX7_pointCount [.code yX7_pointCount cX7_pointCount 1 (some .int)] ({ frames := 0, cells := 0, slots := 0, locals := 0 } : Room) (va_Pc [.ref (ad 0)] (gB l gFull D cy ad base μ)) (gQ (some (.int RES)) gFull D cy ad base μ) 0 0 (gA base) := by
  refine Met.ofW (cc := cX7_pointCount) (maxL := 1) (ret := (some .int)) (by decide) rfl ?_
  intro p e s m args below meth c s₁ B hml0 hv
  obtain ⟨rfl, E, hM⟩ := hv
  have F : gF p s m meth c cX7_pointCount RX7 1 (some .int) := gF_of B hml0
  obtain ⟨hx, hb, hml, hown, hlocks, hr⟩ := id F
  have hS : va_S (gA base) s.heap s.heap [] := va_S.rf
  have hl := lv_entry ([.ref (ad 0)]) (n := 1) (Nat.le_of_ble_eq_true rfl)
  rw [lg_entry_eq]
  generalize (lg_sl ([.ref (ad 0)]) ++ List.replicate (1 - (lg_sl ([.ref (ad 0)])).length) Slot.unset).toArray = ls at hl ⊢
  have hl : lv_has ls 1 [(0, .ref (ad 0))] := hl
  unfold f_X7_pointCount at h
  refine lv_aload_n hx hb dX7_pointCount_0 rfl (lv_at hl 0 rfl) ?_
  refine gg_0_5 hx hb hown E hM hk_0 kw_463 dX7_pointCount_1 ?_
  refine gg_34_1 hx hb hown E hM hk_34 kw_360 dX7_pointCount_4 ?_
  obtain rfl := Option.some.inj h
  exact g_iret hx hb hr hlocks hM hS dX7_pointCount_7
def f_X7_lineCount (μ : gM) : Option (Int32) :=
  some (gi μ 34 2)
set_option maxHeartbeats 4000000 in
set_option maxRecDepth 100000 in
theorem c_X7_lineCount {l : Launch} {D : va_G} {cy : Nat → ClassId} {ad : Nat → Nat} {base : Nat}  {μ : gM} {RES : Int32} (h : f_X7_lineCount  μ = some RES) : Met l yX7_lineCount [.code yX7_lineCount cX7_lineCount 1 (some .int)] ({ frames := 0, cells := 0, slots := 0, locals := 0 } : Room) (va_Pc [.ref (ad 0)] (gB l gFull D cy ad base μ)) (gQ (some (.int RES)) gFull D cy ad base μ) 0 0 (gA base) := by
  refine Met.ofW (cc := cX7_lineCount) (maxL := 1) (ret := (some .int)) (by decide) rfl ?_
  intro p e s m args below meth c s₁ B hml0 hv
  obtain ⟨rfl, E, hM⟩ := hv
  have F : gF p s m meth c cX7_lineCount RX7 1 (some .int) := gF_of B hml0
  obtain ⟨hx, hb, hml, hown, hlocks, hr⟩ := id F
  have hS : va_S (gA base) s.heap s.heap [] := va_S.rf
  have hl := lv_entry ([.ref (ad 0)]) (n := 1) (Nat.le_of_ble_eq_true rfl)
  rw [lg_entry_eq]
  generalize (lg_sl ([.ref (ad 0)]) ++ List.replicate (1 - (lg_sl ([.ref (ad 0)])).length) Slot.unset).toArray = ls at hl ⊢
  have hl : lv_has ls 1 [(0, .ref (ad 0))] := hl
  unfold f_X7_lineCount at h
  refine lv_aload_n hx hb dX7_lineCount_0 rfl (lv_at hl 0 rfl) ?_
  refine gg_0_5 hx hb hown E hM hk_0 kw_463 dX7_lineCount_1 ?_
  refine gg_34_2 hx hb hown E hM hk_34 kw_367 dX7_lineCount_4 ?_
  obtain rfl := Option.some.inj h
  exact g_iret hx hb hr hlocks hM hS dX7_lineCount_7
def f_X7_testCount (μ : gM) : Option (Int32) :=
  some (gi μ 34 3)
set_option maxHeartbeats 4000000 in
set_option maxRecDepth 100000 in
theorem c_X7_testCount {l : Launch} {D : va_G} {cy : Nat → ClassId} {ad : Nat → Nat} {base : Nat}  {μ : gM} {RES : Int32} (h : f_X7_testCount  μ = some RES) : Met l yX7_testCount [.code yX7_testCount cX7_testCount 1 (some .int)] ({ frames := 0, cells := 0, slots := 0, locals := 0 } : Room) (va_Pc [.ref (ad 0)] (gB l gFull D cy ad base μ)) (gQ (some (.int RES)) gFull D cy ad base μ) 0 0 (gA base) := by
  refine Met.ofW (cc := cX7_testCount) (maxL := 1) (ret := (some .int)) (by decide) rfl ?_
  intro p e s m args below meth c s₁ B hml0 hv
  obtain ⟨rfl, E, hM⟩ := hv
  have F : gF p s m meth c cX7_testCount RX7 1 (some .int) := gF_of B hml0
  obtain ⟨hx, hb, hml, hown, hlocks, hr⟩ := id F
  have hS : va_S (gA base) s.heap s.heap [] := va_S.rf
  have hl := lv_entry ([.ref (ad 0)]) (n := 1) (Nat.le_of_ble_eq_true rfl)
  rw [lg_entry_eq]
  generalize (lg_sl ([.ref (ad 0)]) ++ List.replicate (1 - (lg_sl ([.ref (ad 0)])).length) Slot.unset).toArray = ls at hl ⊢
  have hl : lv_has ls 1 [(0, .ref (ad 0))] := hl
  unfold f_X7_testCount at h
  refine lv_aload_n hx hb dX7_testCount_0 rfl (lv_at hl 0 rfl) ?_
  refine gg_0_5 hx hb hown E hM hk_0 kw_463 dX7_testCount_1 ?_
  refine gg_34_3 hx hb hown E hM hk_34 kw_370 dX7_testCount_4 ?_
  obtain rfl := Option.some.inj h
  exact g_iret hx hb hr hlocks hM hS dX7_testCount_7
def f_X7_undoCount (μ : gM) : Option (Int32) :=
  some (gi μ 28 0)
set_option maxHeartbeats 4000000 in
set_option maxRecDepth 100000 in
theorem c_X7_undoCount {l : Launch} {D : va_G} {cy : Nat → ClassId} {ad : Nat → Nat} {base : Nat}  {μ : gM} {RES : Int32} (h : f_X7_undoCount  μ = some RES) : Met l yX7_undoCount [.code yX7_undoCount cX7_undoCount 1 (some .int)] ({ frames := 0, cells := 0, slots := 0, locals := 0 } : Room) (va_Pc [.ref (ad 0)] (gB l gFull D cy ad base μ)) (gQ (some (.int RES)) gFull D cy ad base μ) 0 0 (gA base) := by
  refine Met.ofW (cc := cX7_undoCount) (maxL := 1) (ret := (some .int)) (by decide) rfl ?_
  intro p e s m args below meth c s₁ B hml0 hv
  obtain ⟨rfl, E, hM⟩ := hv
  have F : gF p s m meth c cX7_undoCount RX7 1 (some .int) := gF_of B hml0
  obtain ⟨hx, hb, hml, hown, hlocks, hr⟩ := id F
  have hS : va_S (gA base) s.heap s.heap [] := va_S.rf
  have hl := lv_entry ([.ref (ad 0)]) (n := 1) (Nat.le_of_ble_eq_true rfl)
  rw [lg_entry_eq]
  generalize (lg_sl ([.ref (ad 0)]) ++ List.replicate (1 - (lg_sl ([.ref (ad 0)])).length) Slot.unset).toArray = ls at hl ⊢
  have hl : lv_has ls 1 [(0, .ref (ad 0))] := hl
  unfold f_X7_undoCount at h
  refine lv_aload_n hx hb dX7_undoCount_0 rfl (lv_at hl 0 rfl) ?_
  refine gg_0_4 hx hb hown E hM hk_0 kw_462 dX7_undoCount_1 ?_
  refine gg_28_0 hx hb hown E hM hk_28 kw_317 dX7_undoCount_4 ?_
  obtain rfl := Option.some.inj h
  exact g_iret hx hb hr hlocks hM hS dX7_undoCount_7
def f_X7_levelNamed (p1 : Int32) (μ : gM) : Option (Int32) :=
  Option.bind (f_X3_findLevel p1 μ) (fun q1 => some q1)
set_option maxHeartbeats 4000000 in
set_option maxRecDepth 100000 in
theorem c_X7_levelNamed {l : Launch} {D : va_G} {cy : Nat → ClassId} {ad : Nat → Nat} {base : Nat} {p1 : Int32} {μ : gM} {RES : Int32} (h : f_X7_levelNamed p1 μ = some RES) : Met l yX7_levelNamed [.code yX7_levelNamed cX7_levelNamed 2 (some .int)] ({ frames := 1, cells := 0, slots := 0, locals := 22 } : Room) (va_Pc [.ref (ad 0), .int p1] (gB l gFull D cy ad base μ)) (gQ (some (.int RES)) gFull D cy ad base μ) 0 0 (gA base) := by
  refine Met.ofW (cc := cX7_levelNamed) (maxL := 2) (ret := (some .int)) (by decide) rfl ?_
  intro p e s m args below meth c s₁ B hml0 hv
  obtain ⟨rfl, E, hM⟩ := hv
  have F : gF p s m meth c cX7_levelNamed RX7 2 (some .int) := gF_of B hml0
  obtain ⟨hx, hb, hml, hown, hlocks, hr⟩ := id F
  have hS : va_S (gA base) s.heap s.heap [] := va_S.rf
  have hl := lv_entry ([.ref (ad 0), .int p1]) (n := 2) (Nat.le_of_ble_eq_true rfl)
  rw [lg_entry_eq]
  generalize (lg_sl ([.ref (ad 0), .int p1]) ++ List.replicate (2 - (lg_sl ([.ref (ad 0), .int p1])).length) Slot.unset).toArray = ls at hl ⊢
  have hl : lv_has ls 2 [(0, .ref (ad 0)), (1, .int p1)] := hl
  unfold f_X7_levelNamed at h
  refine lv_aload_n hx hb dX7_levelNamed_0 rfl (lv_at hl 0 rfl) ?_
  refine gg_0_5 hx hb hown E hM hk_0 kw_463 dX7_levelNamed_1 ?_
  refine lv_iload_n hx hb dX7_levelNamed_4 rfl (lv_at hl 1 rfl) ?_
  obtain ⟨q1, hq1, h⟩ := gbind_e h
  refine g_callV (As := [.int p1]) (rest := []) hx hb (hml.trans hl.1.symm) hown E hM hS hy_X3_findLevel kw_635 (c_X3_findLevel hq1) hk_34 dd_34 rfl rfl rfl (Nat.le_of_ble_eq_true rfl) ⟨Nat.le_of_ble_eq_true rfl, Nat.le_of_ble_eq_true rfl⟩ ⟨Nat.le_of_ble_eq_true rfl, Nat.le_of_ble_eq_true rfl⟩ dX7_levelNamed_5 (fun H locs hM hS => ?_)
  obtain rfl := Option.some.inj h
  exact g_iret hx hb hr hlocks hM hS dX7_levelNamed_8
def f_X7_pointNamed (p1 : Int32) (μ : gM) : Option (Int32) :=
  Option.bind (f_X3_findPoint p1 μ) (fun q1 => some q1)
set_option maxHeartbeats 4000000 in
set_option maxRecDepth 100000 in
theorem c_X7_pointNamed {l : Launch} {D : va_G} {cy : Nat → ClassId} {ad : Nat → Nat} {base : Nat} {p1 : Int32} {μ : gM} {RES : Int32} (h : f_X7_pointNamed p1 μ = some RES) : Met l yX7_pointNamed [.code yX7_pointNamed cX7_pointNamed 2 (some .int)] ({ frames := 1, cells := 0, slots := 0, locals := 22 } : Room) (va_Pc [.ref (ad 0), .int p1] (gB l gFull D cy ad base μ)) (gQ (some (.int RES)) gFull D cy ad base μ) 0 0 (gA base) := by
  refine Met.ofW (cc := cX7_pointNamed) (maxL := 2) (ret := (some .int)) (by decide) rfl ?_
  intro p e s m args below meth c s₁ B hml0 hv
  obtain ⟨rfl, E, hM⟩ := hv
  have F : gF p s m meth c cX7_pointNamed RX7 2 (some .int) := gF_of B hml0
  obtain ⟨hx, hb, hml, hown, hlocks, hr⟩ := id F
  have hS : va_S (gA base) s.heap s.heap [] := va_S.rf
  have hl := lv_entry ([.ref (ad 0), .int p1]) (n := 2) (Nat.le_of_ble_eq_true rfl)
  rw [lg_entry_eq]
  generalize (lg_sl ([.ref (ad 0), .int p1]) ++ List.replicate (2 - (lg_sl ([.ref (ad 0), .int p1])).length) Slot.unset).toArray = ls at hl ⊢
  have hl : lv_has ls 2 [(0, .ref (ad 0)), (1, .int p1)] := hl
  unfold f_X7_pointNamed at h
  refine lv_aload_n hx hb dX7_pointNamed_0 rfl (lv_at hl 0 rfl) ?_
  refine gg_0_5 hx hb hown E hM hk_0 kw_463 dX7_pointNamed_1 ?_
  refine lv_iload_n hx hb dX7_pointNamed_4 rfl (lv_at hl 1 rfl) ?_
  obtain ⟨q1, hq1, h⟩ := gbind_e h
  refine g_callV (As := [.int p1]) (rest := []) hx hb (hml.trans hl.1.symm) hown E hM hS hy_X3_findPoint kw_640 (c_X3_findPoint hq1) hk_34 dd_34 rfl rfl rfl (Nat.le_of_ble_eq_true rfl) ⟨Nat.le_of_ble_eq_true rfl, Nat.le_of_ble_eq_true rfl⟩ ⟨Nat.le_of_ble_eq_true rfl, Nat.le_of_ble_eq_true rfl⟩ dX7_pointNamed_5 (fun H locs hM hS => ?_)
  obtain rfl := Option.some.inj h
  exact g_iret hx hb hr hlocks hM hS dX7_pointNamed_8
def f_X7_getSetting (p1 : Int32) (μ : gM) : Option (Int32) :=
  Option.bind (f_X7_isIndex p1 (3 : Int32) μ) (fun q1 => if ((b2i q1) = 0) then some (-2 : Int32) else gchk (gIn p1 3) (some (gi μ 35 p1.toNatClampNeg)))
set_option maxHeartbeats 4000000 in
set_option maxRecDepth 100000 in
theorem c_X7_getSetting {l : Launch} {D : va_G} {cy : Nat → ClassId} {ad : Nat → Nat} {base : Nat} {p1 : Int32} {μ : gM} {RES : Int32} (h : f_X7_getSetting p1 μ = some RES) : Met l yX7_getSetting [.code yX7_getSetting cX7_getSetting 2 (some .int)] ({ frames := 1, cells := 0, slots := 0, locals := 21 } : Room) (va_Pc [.ref (ad 0), .int p1] (gB l gFull D cy ad base μ)) (gQ (some (.int RES)) gFull D cy ad base μ) 0 0 (gA base) := by
  refine Met.ofW (cc := cX7_getSetting) (maxL := 2) (ret := (some .int)) (by decide) rfl ?_
  intro p e s m args below meth c s₁ B hml0 hv
  obtain ⟨rfl, E, hM⟩ := hv
  have F : gF p s m meth c cX7_getSetting RX7 2 (some .int) := gF_of B hml0
  obtain ⟨hx, hb, hml, hown, hlocks, hr⟩ := id F
  have hS : va_S (gA base) s.heap s.heap [] := va_S.rf
  have hl := lv_entry ([.ref (ad 0), .int p1]) (n := 2) (Nat.le_of_ble_eq_true rfl)
  rw [lg_entry_eq]
  generalize (lg_sl ([.ref (ad 0), .int p1]) ++ List.replicate (2 - (lg_sl ([.ref (ad 0), .int p1])).length) Slot.unset).toArray = ls at hl ⊢
  have hl : lv_has ls 2 [(0, .ref (ad 0)), (1, .int p1)] := hl
  unfold f_X7_getSetting at h
  refine lv_iload_n hx hb dX7_getSetting_0 rfl (lv_at hl 1 rfl) ?_
  refine lv_iconst (v := (3 : Int32)) hx hb dX7_getSetting_1 (by decide) ?_
  obtain ⟨q1, hq1, h⟩ := gbind_e h
  refine g_callS (As := [.int p1, .int (3 : Int32)]) (rest := []) hx hb (hml.trans hl.1.symm) hown E hM hS hy_X7_isIndex kw_645 (c_X7_isIndex hq1) rfl rfl (Nat.le_of_ble_eq_true rfl) ⟨Nat.le_of_ble_eq_true rfl, Nat.le_of_ble_eq_true rfl⟩ ⟨Nat.le_of_ble_eq_true rfl, Nat.le_of_ble_eq_true rfl⟩ dX7_getSetting_2 (fun H locs hM hS => ?_)
  refine lv_if_ne (tgt := 11) hx hb dX7_getSetting_5 (by decide) (fun c2 => ?_) (fun c2 => ?_)
  · replace h := gif_f c2 h
    refine lv_aload_n hx hb dX7_getSetting_11 rfl (lv_at hl 0 rfl) ?_
    refine gg_0_5 hx hb hown E hM hk_0 kw_463 dX7_getSetting_12 ?_
    refine gg_34_5 hx hb hown E hM hk_34 kw_381 dX7_getSetting_15 ?_
    refine lv_iload_n hx hb dX7_getSetting_18 rfl (lv_at hl 1 rfl) ?_
    obtain ⟨c3, h⟩ := gchk_e h
    refine g_iald hx hb E hM hk_35 dd_35 c3 dX7_getSetting_19 ?_
    obtain rfl := Option.some.inj h
    exact g_iret hx hb hr hlocks hM hS dX7_getSetting_20
  · replace h := gif_t c2 h
    refine lv_bipush (v := (-2 : Int32)) hx hb dX7_getSetting_8 (by decide) ?_
    obtain rfl := Option.some.inj h
    exact g_iret hx hb hr hlocks hM hS dX7_getSetting_10
def f_X7_needIndex (p1 : Int32) (p2 : Int32) (μ : gM) : Option (Option Unit) :=
  Option.bind (f_X7_isIndex p1 p2 μ) (fun q1 => if ((b2i q1) = 0) then some none else some (some ()))
set_option maxHeartbeats 4000000 in
set_option maxRecDepth 100000 in
theorem c_X7_needIndex {l : Launch} {D : va_G} {cy : Nat → ClassId} {ad : Nat → Nat} {base : Nat} {p1 : Int32} {p2 : Int32} {μ : gM} {RES : Option Unit} (h : f_X7_needIndex p1 p2 μ = some RES) : vx_Met l yX7_needIndex [.code yX7_needIndex cX7_needIndex 2 none] ({ frames := 6, cells := 1, slots := 6, locals := 82 } : Room) (va_Pc [.int p1, .int p2] (gB l gFull D cy ad base μ)) (gQo RES (fun _ => none) gFull D cy ad base μ) (gX (RES = none) gFull D cy ad base μ) 1 6 (gA base) := by
  refine vx_ofW (cc := cX7_needIndex) (maxL := 2) (ret := none) (by decide) rfl ?_
  intro p e s m args below meth c s₁ B hml0 hT hv
  obtain ⟨rfl, E, hM⟩ := hv
  have F : gF p s m meth c cX7_needIndex RX7 2 none := gF_of B hml0
  obtain ⟨hx, hb, hml, hown, hlocks, hr⟩ := id F
  have hS : va_S (gA base) s.heap s.heap [] := va_S.rf
  have hl := lv_entry ([.int p1, .int p2]) (n := 2) (Nat.le_of_ble_eq_true rfl)
  rw [lg_entry_eq]
  generalize (lg_sl ([.int p1, .int p2]) ++ List.replicate (2 - (lg_sl ([.int p1, .int p2])).length) Slot.unset).toArray = ls at hl ⊢
  have hl : lv_has ls 2 [(0, .int p1), (1, .int p2)] := hl
  unfold f_X7_needIndex at h
  refine lv_iload_n hx hb dX7_needIndex_0 rfl (lv_at hl 0 rfl) ?_
  refine lv_iload_n hx hb dX7_needIndex_1 rfl (lv_at hl 1 rfl) ?_
  obtain ⟨q1, hq1, h⟩ := gbind_e h
  refine g_callS (As := [.int p1, .int p2]) (rest := []) hx hb (hml.trans hl.1.symm) hown E hM hS hy_X7_isIndex kw_645 (c_X7_isIndex hq1) rfl rfl (Nat.le_of_ble_eq_true rfl) ⟨Nat.le_of_ble_eq_true rfl, Nat.le_of_ble_eq_true rfl⟩ ⟨Nat.le_of_ble_eq_true rfl, Nat.le_of_ble_eq_true rfl⟩ dX7_needIndex_2 (fun H locs hM hS => ?_)
  refine lv_if_ne (tgt := 19) hx hb dX7_needIndex_5 (by decide) (fun c2 => ?_) (fun c2 => ?_)
  · replace h := gif_f c2 h
    obtain rfl := Option.some.inj h
    exact g_retX rfl (Nat.le_of_ble_eq_true rfl) (Nat.le_of_ble_eq_true rfl) (g_vret hx hb hr hlocks hM hS dX7_needIndex_19)
  · replace h := gif_t c2 h
    obtain rfl := Option.some.inj h
    exact g_throw hx hb hown hT hlocks E hM hS (hl.1.trans hml.symm) rfl dX7_needIndex_8 dX7_needIndex_11 dX7_needIndex_12 dX7_needIndex_15 dX7_needIndex_18 (Nat.le_of_ble_eq_true rfl) (Nat.le_of_ble_eq_true rfl) (Nat.le_of_ble_eq_true rfl) (Nat.le_of_ble_eq_true rfl)
def f_X7_collimation (p1 : Int32) (μ : gM) : Option (Option Int32) :=
  Option.bind (f_X7_needIndex p1 (gi μ 34 0) μ) (fun q1 => Option.elim q1 (some none) (fun v2 => gchk (gIn p1 3) (some (some (gi μ 37 p1.toNatClampNeg)))))
set_option maxHeartbeats 4000000 in
set_option maxRecDepth 100000 in
theorem c_X7_collimation {l : Launch} {D : va_G} {cy : Nat → ClassId} {ad : Nat → Nat} {base : Nat} {p1 : Int32} {μ : gM} {RES : Option Int32} (h : f_X7_collimation p1 μ = some RES) : vx_Met l yX7_collimation [.code yX7_collimation cX7_collimation 2 (some .int)] ({ frames := 7, cells := 1, slots := 6, locals := 103 } : Room) (va_Pc [.ref (ad 0), .int p1] (gB l gFull D cy ad base μ)) (gQo RES (fun v => some (.int v)) gFull D cy ad base μ) (gX (RES = none) gFull D cy ad base μ) 1 6 (gA base) := by
  refine vx_ofW (cc := cX7_collimation) (maxL := 2) (ret := (some .int)) (by decide) rfl ?_
  intro p e s m args below meth c s₁ B hml0 hT hv
  obtain ⟨rfl, E, hM⟩ := hv
  have F : gF p s m meth c cX7_collimation RX7 2 (some .int) := gF_of B hml0
  obtain ⟨hx, hb, hml, hown, hlocks, hr⟩ := id F
  have hS : va_S (gA base) s.heap s.heap [] := va_S.rf
  have hl := lv_entry ([.ref (ad 0), .int p1]) (n := 2) (Nat.le_of_ble_eq_true rfl)
  rw [lg_entry_eq]
  generalize (lg_sl ([.ref (ad 0), .int p1]) ++ List.replicate (2 - (lg_sl ([.ref (ad 0), .int p1])).length) Slot.unset).toArray = ls at hl ⊢
  have hl : lv_has ls 2 [(0, .ref (ad 0)), (1, .int p1)] := hl
  unfold f_X7_collimation at h
  refine lv_iload_n hx hb dX7_collimation_0 rfl (lv_at hl 1 rfl) ?_
  refine lv_aload_n hx hb dX7_collimation_1 rfl (lv_at hl 0 rfl) ?_
  refine gg_0_5 hx hb hown E hM hk_0 kw_463 dX7_collimation_2 ?_
  refine gg_34_0 hx hb hown E hM hk_34 kw_354 dX7_collimation_5 ?_
  obtain ⟨q1, hq1, h⟩ := gbind_e h
  refine g_callXS (As := [.int p1, .int (gi μ 34 0)]) (rest := []) hx hb (hml.trans hl.1.symm) hown E hM hS hy_X7_needIndex kw_935 (c_X7_needIndex hq1) rfl rfl (Nat.le_of_ble_eq_true rfl) ⟨Nat.le_of_ble_eq_true rfl, Nat.le_of_ble_eq_true rfl⟩ ⟨Nat.le_of_ble_eq_true rfl, Nat.le_of_ble_eq_true rfl⟩ dX7_collimation_8 (fun e3 q9 ce H locs hM hS hce hcv hcl => ?_) (fun v2 e3 H locs hM hS => ?_)
  · replace h := gel_n e3 h
    obtain rfl := Option.some.inj h
    exact g_outX hT hlocks rfl hM hS hce hcv hcl (Nat.le_of_ble_eq_true rfl) (Nat.le_of_ble_eq_true rfl)
  · replace h := gel_s e3 h
    refine lv_aload_n hx hb dX7_collimation_11 rfl (lv_at hl 0 rfl) ?_
    refine gg_0_5 hx hb hown E hM hk_0 kw_463 dX7_collimation_12 ?_
    refine gg_34_7 hx hb hown E hM hk_34 kw_387 dX7_collimation_15 ?_
    refine lv_iload_n hx hb dX7_collimation_18 rfl (lv_at hl 1 rfl) ?_
    obtain ⟨c4, h⟩ := gchk_e h
    refine g_iald hx hb E hM hk_37 dd_37 c4 dX7_collimation_19 ?_
    obtain rfl := Option.some.inj h
    exact g_retX rfl (Nat.le_of_ble_eq_true rfl) (Nat.le_of_ble_eq_true rfl) (g_iret hx hb hr hlocks hM hS dX7_collimation_20)
def f_X7_testNumber (p1 : Int32) (p2 : Int32) (μ : gM) : Option (Option Int32) :=
  Option.bind (f_X7_needIndex p1 (gi μ 34 3) μ) (fun q1 => Option.elim q1 (some none) (fun v2 => if p2 = 0 then gchk (gIn p1 6) (some (some (gi μ 45 p1.toNatClampNeg))) else if p2 = 1 then Option.bind (f_X3_testResult p1 μ) (fun q9 => some (some q9)) else if p2 = 2 then Option.bind (f_X3_testGap p1 μ) (fun q10 => some (some q10)) else some (some (-2147483648 : Int32))))
set_option maxHeartbeats 4000000 in
set_option maxRecDepth 100000 in
theorem c_X7_testNumber {l : Launch} {D : va_G} {cy : Nat → ClassId} {ad : Nat → Nat} {base : Nat} {p1 : Int32} {p2 : Int32} {μ : gM} {RES : Option Int32} (h : f_X7_testNumber p1 p2 μ = some RES) : vx_Met l yX7_testNumber [.code yX7_testNumber cX7_testNumber 3 (some .int)] ({ frames := 7, cells := 1, slots := 6, locals := 103 } : Room) (va_Pc [.ref (ad 0), .int p1, .int p2] (gB l gFull D cy ad base μ)) (gQo RES (fun v => some (.int v)) gFull D cy ad base μ) (gX (RES = none) gFull D cy ad base μ) 1 6 (gA base) := by
  refine vx_ofW (cc := cX7_testNumber) (maxL := 3) (ret := (some .int)) (by decide) rfl ?_
  intro p e s m args below meth c s₁ B hml0 hT hv
  obtain ⟨rfl, E, hM⟩ := hv
  have F : gF p s m meth c cX7_testNumber RX7 3 (some .int) := gF_of B hml0
  obtain ⟨hx, hb, hml, hown, hlocks, hr⟩ := id F
  have hS : va_S (gA base) s.heap s.heap [] := va_S.rf
  have hl := lv_entry ([.ref (ad 0), .int p1, .int p2]) (n := 3) (Nat.le_of_ble_eq_true rfl)
  rw [lg_entry_eq]
  generalize (lg_sl ([.ref (ad 0), .int p1, .int p2]) ++ List.replicate (3 - (lg_sl ([.ref (ad 0), .int p1, .int p2])).length) Slot.unset).toArray = ls at hl ⊢
  have hl : lv_has ls 3 [(0, .ref (ad 0)), (1, .int p1), (2, .int p2)] := hl
  unfold f_X7_testNumber at h
  refine lv_iload_n hx hb dX7_testNumber_0 rfl (lv_at hl 1 rfl) ?_
  refine lv_aload_n hx hb dX7_testNumber_1 rfl (lv_at hl 0 rfl) ?_
  refine gg_0_5 hx hb hown E hM hk_0 kw_463 dX7_testNumber_2 ?_
  refine gg_34_3 hx hb hown E hM hk_34 kw_370 dX7_testNumber_5 ?_
  obtain ⟨q1, hq1, h⟩ := gbind_e h
  refine g_callXS (As := [.int p1, .int (gi μ 34 3)]) (rest := []) hx hb (hml.trans hl.1.symm) hown E hM hS hy_X7_needIndex kw_935 (c_X7_needIndex hq1) rfl rfl (Nat.le_of_ble_eq_true rfl) ⟨Nat.le_of_ble_eq_true rfl, Nat.le_of_ble_eq_true rfl⟩ ⟨Nat.le_of_ble_eq_true rfl, Nat.le_of_ble_eq_true rfl⟩ dX7_testNumber_8 (fun e3 q9 ce H locs hM hS hce hcv hcl => ?_) (fun v2 e3 H locs hM hS => ?_)
  · replace h := gel_n e3 h
    obtain rfl := Option.some.inj h
    exact g_outX hT hlocks rfl hM hS hce hcv hcl (Nat.le_of_ble_eq_true rfl) (Nat.le_of_ble_eq_true rfl)
  · replace h := gel_s e3 h
    refine lv_iload_n hx hb dX7_testNumber_11 rfl (lv_at hl 2 rfl) ?_
    by_cases c5 : p2 = 0
    · replace h := gif_t c5 h
      refine lv_tableIn (off := 28) (tgt := 40) hx hb dX7_testNumber_12 (by rw [c5]; decide) (by rw [c5]; decide) (by rw [c5]; rfl) (by decide) ?_
      refine lv_aload_n hx hb dX7_testNumber_40 rfl (lv_at hl 0 rfl) ?_
      refine gg_0_5 hx hb hown E hM hk_0 kw_463 dX7_testNumber_41 ?_
      refine gg_34_15 hx hb hown E hM hk_34 kw_420 dX7_testNumber_44 ?_
      refine lv_iload_n hx hb dX7_testNumber_47 rfl (lv_at hl 1 rfl) ?_
      obtain ⟨c8, h⟩ := gchk_e h
      refine g_iald hx hb E hM hk_45 dd_45 c8 dX7_testNumber_48 ?_
      obtain rfl := Option.some.inj h
      exact g_retX rfl (Nat.le_of_ble_eq_true rfl) (Nat.le_of_ble_eq_true rfl) (g_iret hx hb hr hlocks hM hS dX7_testNumber_49)
    · replace h := gif_f c5 h
      by_cases c6 : p2 = 1
      · replace h := gif_t c6 h
        refine lv_tableIn (off := 38) (tgt := 50) hx hb dX7_testNumber_12 (by rw [c6]; decide) (by rw [c6]; decide) (by rw [c6]; rfl) (by decide) ?_
        refine lv_aload_n hx hb dX7_testNumber_50 rfl (lv_at hl 0 rfl) ?_
        refine gg_0_5 hx hb hown E hM hk_0 kw_463 dX7_testNumber_51 ?_
        refine lv_iload_n hx hb dX7_testNumber_54 rfl (lv_at hl 1 rfl) ?_
        obtain ⟨q9, hq9, h⟩ := gbind_e h
        refine g_callV (As := [.int p1]) (rest := []) hx hb (hml.trans hl.1.symm) hown E hM hS hy_X3_testResult kw_877 (c_X3_testResult hq9) hk_34 dd_34 rfl rfl rfl (Nat.le_of_ble_eq_true rfl) ⟨Nat.le_of_ble_eq_true rfl, Nat.le_of_ble_eq_true rfl⟩ ⟨Nat.le_of_ble_eq_true rfl, Nat.le_of_ble_eq_true rfl⟩ dX7_testNumber_55 (fun H locs hM hS => ?_)
        obtain rfl := Option.some.inj h
        exact g_retX rfl (Nat.le_of_ble_eq_true rfl) (Nat.le_of_ble_eq_true rfl) (g_iret hx hb hr hlocks hM hS dX7_testNumber_58)
      · replace h := gif_f c6 h
        by_cases c7 : p2 = 2
        · replace h := gif_t c7 h
          refine lv_tableIn (off := 47) (tgt := 59) hx hb dX7_testNumber_12 (by rw [c7]; decide) (by rw [c7]; decide) (by rw [c7]; rfl) (by decide) ?_
          refine lv_aload_n hx hb dX7_testNumber_59 rfl (lv_at hl 0 rfl) ?_
          refine gg_0_5 hx hb hown E hM hk_0 kw_463 dX7_testNumber_60 ?_
          refine lv_iload_n hx hb dX7_testNumber_63 rfl (lv_at hl 1 rfl) ?_
          obtain ⟨q10, hq10, h⟩ := gbind_e h
          refine g_callV (As := [.int p1]) (rest := []) hx hb (hml.trans hl.1.symm) hown E hM hS hy_X3_testGap kw_1010 (c_X3_testGap hq10) hk_34 dd_34 rfl rfl rfl (Nat.le_of_ble_eq_true rfl) ⟨Nat.le_of_ble_eq_true rfl, Nat.le_of_ble_eq_true rfl⟩ ⟨Nat.le_of_ble_eq_true rfl, Nat.le_of_ble_eq_true rfl⟩ dX7_testNumber_64 (fun H locs hM hS => ?_)
          obtain rfl := Option.some.inj h
          exact g_retX rfl (Nat.le_of_ble_eq_true rfl) (Nat.le_of_ble_eq_true rfl) (g_iret hx hb hr hlocks hM hS dX7_testNumber_67)
        · replace h := gif_f c7 h
          refine lv_tableOut (tgt := 68) hx hb dX7_testNumber_12 (g_sw3 c5 c6 c7) (by decide) ?_
          refine lv_ldc hx hb hown (v := (-2147483648 : Int32)) (E.kw kw_868) dX7_testNumber_68 ?_
          obtain rfl := Option.some.inj h
          exact g_retX rfl (Nat.le_of_ble_eq_true rfl) (Nat.le_of_ble_eq_true rfl) (g_iret hx hb hr hlocks hM hS dX7_testNumber_70)
def f_X7_heldAt (p1 : Int32) (μ : gM) : Option (Option Int32) :=
  Option.bind (f_X7_needIndex p1 (gi μ 34 1) μ) (fun q1 => Option.elim q1 (some none) (fun v2 => gchk (gIn p1 16) (some (some (gi μ 39 p1.toNatClampNeg)))))
set_option maxHeartbeats 4000000 in
set_option maxRecDepth 100000 in
theorem c_X7_heldAt {l : Launch} {D : va_G} {cy : Nat → ClassId} {ad : Nat → Nat} {base : Nat} {p1 : Int32} {μ : gM} {RES : Option Int32} (h : f_X7_heldAt p1 μ = some RES) : vx_Met l yX7_heldAt [.code yX7_heldAt cX7_heldAt 2 (some .int)] ({ frames := 7, cells := 1, slots := 6, locals := 103 } : Room) (va_Pc [.ref (ad 0), .int p1] (gB l gFull D cy ad base μ)) (gQo RES (fun v => some (.int v)) gFull D cy ad base μ) (gX (RES = none) gFull D cy ad base μ) 1 6 (gA base) := by
  refine vx_ofW (cc := cX7_heldAt) (maxL := 2) (ret := (some .int)) (by decide) rfl ?_
  intro p e s m args below meth c s₁ B hml0 hT hv
  obtain ⟨rfl, E, hM⟩ := hv
  have F : gF p s m meth c cX7_heldAt RX7 2 (some .int) := gF_of B hml0
  obtain ⟨hx, hb, hml, hown, hlocks, hr⟩ := id F
  have hS : va_S (gA base) s.heap s.heap [] := va_S.rf
  have hl := lv_entry ([.ref (ad 0), .int p1]) (n := 2) (Nat.le_of_ble_eq_true rfl)
  rw [lg_entry_eq]
  generalize (lg_sl ([.ref (ad 0), .int p1]) ++ List.replicate (2 - (lg_sl ([.ref (ad 0), .int p1])).length) Slot.unset).toArray = ls at hl ⊢
  have hl : lv_has ls 2 [(0, .ref (ad 0)), (1, .int p1)] := hl
  unfold f_X7_heldAt at h
  refine lv_iload_n hx hb dX7_heldAt_0 rfl (lv_at hl 1 rfl) ?_
  refine lv_aload_n hx hb dX7_heldAt_1 rfl (lv_at hl 0 rfl) ?_
  refine gg_0_5 hx hb hown E hM hk_0 kw_463 dX7_heldAt_2 ?_
  refine gg_34_1 hx hb hown E hM hk_34 kw_360 dX7_heldAt_5 ?_
  obtain ⟨q1, hq1, h⟩ := gbind_e h
  refine g_callXS (As := [.int p1, .int (gi μ 34 1)]) (rest := []) hx hb (hml.trans hl.1.symm) hown E hM hS hy_X7_needIndex kw_935 (c_X7_needIndex hq1) rfl rfl (Nat.le_of_ble_eq_true rfl) ⟨Nat.le_of_ble_eq_true rfl, Nat.le_of_ble_eq_true rfl⟩ ⟨Nat.le_of_ble_eq_true rfl, Nat.le_of_ble_eq_true rfl⟩ dX7_heldAt_8 (fun e3 q9 ce H locs hM hS hce hcv hcl => ?_) (fun v2 e3 H locs hM hS => ?_)
  · replace h := gel_n e3 h
    obtain rfl := Option.some.inj h
    exact g_outX hT hlocks rfl hM hS hce hcv hcl (Nat.le_of_ble_eq_true rfl) (Nat.le_of_ble_eq_true rfl)
  · replace h := gel_s e3 h
    refine lv_aload_n hx hb dX7_heldAt_11 rfl (lv_at hl 0 rfl) ?_
    refine gg_0_5 hx hb hown E hM hk_0 kw_463 dX7_heldAt_12 ?_
    refine gg_34_9 hx hb hown E hM hk_34 kw_394 dX7_heldAt_15 ?_
    refine lv_iload_n hx hb dX7_heldAt_18 rfl (lv_at hl 1 rfl) ?_
    obtain ⟨c4, h⟩ := gchk_e h
    refine g_iald hx hb E hM hk_39 dd_39 c4 dX7_heldAt_19 ?_
    obtain rfl := Option.some.inj h
    exact g_retX rfl (Nat.le_of_ble_eq_true rfl) (Nat.le_of_ble_eq_true rfl) (g_iret hx hb hr hlocks hM hS dX7_heldAt_20)
def f_X7_lineProperty (p1 : Int32) (p2 : Int32) (μ : gM) : Option (Option Int32) :=
  Option.bind (f_X7_needIndex p1 (gi μ 34 2) μ) (fun q1 => Option.elim q1 (some none) (fun v2 => if p2 = 0 then gchk (gIn p1 20) (some (some (gi μ 40 p1.toNatClampNeg))) else if p2 = 1 then gchk (gIn p1 20) (some (some (gi μ 41 p1.toNatClampNeg))) else if p2 = 2 then gchk (gIn p1 20) (some (some (gi μ 42 p1.toNatClampNeg))) else if p2 = 3 then gchk (gIn p1 20) (some (some (gi μ 43 p1.toNatClampNeg))) else if p2 = 4 then Option.bind (f_X3_isActive p1 μ) (fun q16 => if ((b2i q16) = 0) then some (some (0 : Int32)) else some (some (1 : Int32))) else if p2 = 5 then Option.bind (f_X3_lineLength p1 μ) (fun q18 => some (some q18)) else if p2 = 6 then Option.bind (f_X3_lineWeight p1 μ) (fun q19 => some (some q19)) else some (some (-2 : Int32))))
set_option maxHeartbeats 4000000 in
set_option maxRecDepth 100000 in
theorem c_X7_lineProperty {l : Launch} {D : va_G} {cy : Nat → ClassId} {ad : Nat → Nat} {base : Nat} {p1 : Int32} {p2 : Int32} {μ : gM} {RES : Option Int32} (h : f_X7_lineProperty p1 p2 μ = some RES) : vx_Met l yX7_lineProperty [.code yX7_lineProperty cX7_lineProperty 3 (some .int)] ({ frames := 7, cells := 1, slots := 6, locals := 103 } : Room) (va_Pc [.ref (ad 0), .int p1, .int p2] (gB l gFull D cy ad base μ)) (gQo RES (fun v => some (.int v)) gFull D cy ad base μ) (gX (RES = none) gFull D cy ad base μ) 1 6 (gA base) := by
  refine vx_ofW (cc := cX7_lineProperty) (maxL := 3) (ret := (some .int)) (by decide) rfl ?_
  intro p e s m args below meth c s₁ B hml0 hT hv
  obtain ⟨rfl, E, hM⟩ := hv
  have F : gF p s m meth c cX7_lineProperty RX7 3 (some .int) := gF_of B hml0
  obtain ⟨hx, hb, hml, hown, hlocks, hr⟩ := id F
  have hS : va_S (gA base) s.heap s.heap [] := va_S.rf
  have hl := lv_entry ([.ref (ad 0), .int p1, .int p2]) (n := 3) (Nat.le_of_ble_eq_true rfl)
  rw [lg_entry_eq]
  generalize (lg_sl ([.ref (ad 0), .int p1, .int p2]) ++ List.replicate (3 - (lg_sl ([.ref (ad 0), .int p1, .int p2])).length) Slot.unset).toArray = ls at hl ⊢
  have hl : lv_has ls 3 [(0, .ref (ad 0)), (1, .int p1), (2, .int p2)] := hl
  unfold f_X7_lineProperty at h
  refine lv_iload_n hx hb dX7_lineProperty_0 rfl (lv_at hl 1 rfl) ?_
  refine lv_aload_n hx hb dX7_lineProperty_1 rfl (lv_at hl 0 rfl) ?_
  refine gg_0_5 hx hb hown E hM hk_0 kw_463 dX7_lineProperty_2 ?_
  refine gg_34_2 hx hb hown E hM hk_34 kw_367 dX7_lineProperty_5 ?_
  obtain ⟨q1, hq1, h⟩ := gbind_e h
  refine g_callXS (As := [.int p1, .int (gi μ 34 2)]) (rest := []) hx hb (hml.trans hl.1.symm) hown E hM hS hy_X7_needIndex kw_935 (c_X7_needIndex hq1) rfl rfl (Nat.le_of_ble_eq_true rfl) ⟨Nat.le_of_ble_eq_true rfl, Nat.le_of_ble_eq_true rfl⟩ ⟨Nat.le_of_ble_eq_true rfl, Nat.le_of_ble_eq_true rfl⟩ dX7_lineProperty_8 (fun e3 q9 ce H locs hM hS hce hcv hcl => ?_) (fun v2 e3 H locs hM hS => ?_)
  · replace h := gel_n e3 h
    obtain rfl := Option.some.inj h
    exact g_outX hT hlocks rfl hM hS hce hcv hcl (Nat.le_of_ble_eq_true rfl) (Nat.le_of_ble_eq_true rfl)
  · replace h := gel_s e3 h
    refine lv_iload_n hx hb dX7_lineProperty_11 rfl (lv_at hl 2 rfl) ?_
    by_cases c5 : p2 = 0
    · replace h := gif_t c5 h
      refine lv_tableIn (off := 44) (tgt := 56) hx hb dX7_lineProperty_12 (by rw [c5]; decide) (by rw [c5]; decide) (by rw [c5]; rfl) (by decide) ?_
      refine lv_aload_n hx hb dX7_lineProperty_56 rfl (lv_at hl 0 rfl) ?_
      refine gg_0_5 hx hb hown E hM hk_0 kw_463 dX7_lineProperty_57 ?_
      refine gg_34_10 hx hb hown E hM hk_34 kw_400 dX7_lineProperty_60 ?_
      refine lv_iload_n hx hb dX7_lineProperty_63 rfl (lv_at hl 1 rfl) ?_
      obtain ⟨c12, h⟩ := gchk_e h
      refine g_iald hx hb E hM hk_40 dd_40 c12 dX7_lineProperty_64 ?_
      obtain rfl := Option.some.inj h
      exact g_retX rfl (Nat.le_of_ble_eq_true rfl) (Nat.le_of_ble_eq_true rfl) (g_iret hx hb hr hlocks hM hS dX7_lineProperty_65)
    · replace h := gif_f c5 h
      by_cases c6 : p2 = 1
      · replace h := gif_t c6 h
        refine lv_tableIn (off := 54) (tgt := 66) hx hb dX7_lineProperty_12 (by rw [c6]; decide) (by rw [c6]; decide) (by rw [c6]; rfl) (by decide) ?_
        refine lv_aload_n hx hb dX7_lineProperty_66 rfl (lv_at hl 0 rfl) ?_
        refine gg_0_5 hx hb hown E hM hk_0 kw_463 dX7_lineProperty_67 ?_
        refine gg_34_11 hx hb hown E hM hk_34 kw_406 dX7_lineProperty_70 ?_
        refine lv_iload_n hx hb dX7_lineProperty_73 rfl (lv_at hl 1 rfl) ?_
        obtain ⟨c13, h⟩ := gchk_e h
        refine g_iald hx hb E hM hk_41 dd_41 c13 dX7_lineProperty_74 ?_
        obtain rfl := Option.some.inj h
        exact g_retX rfl (Nat.le_of_ble_eq_true rfl) (Nat.le_of_ble_eq_true rfl) (g_iret hx hb hr hlocks hM hS dX7_lineProperty_75)
      · replace h := gif_f c6 h
        by_cases c7 : p2 = 2
        · replace h := gif_t c7 h
          refine lv_tableIn (off := 64) (tgt := 76) hx hb dX7_lineProperty_12 (by rw [c7]; decide) (by rw [c7]; decide) (by rw [c7]; rfl) (by decide) ?_
          refine lv_aload_n hx hb dX7_lineProperty_76 rfl (lv_at hl 0 rfl) ?_
          refine gg_0_5 hx hb hown E hM hk_0 kw_463 dX7_lineProperty_77 ?_
          refine gg_34_12 hx hb hown E hM hk_34 kw_409 dX7_lineProperty_80 ?_
          refine lv_iload_n hx hb dX7_lineProperty_83 rfl (lv_at hl 1 rfl) ?_
          obtain ⟨c14, h⟩ := gchk_e h
          refine g_iald hx hb E hM hk_42 dd_42 c14 dX7_lineProperty_84 ?_
          obtain rfl := Option.some.inj h
          exact g_retX rfl (Nat.le_of_ble_eq_true rfl) (Nat.le_of_ble_eq_true rfl) (g_iret hx hb hr hlocks hM hS dX7_lineProperty_85)
        · replace h := gif_f c7 h
          by_cases c8 : p2 = 3
          · replace h := gif_t c8 h
            refine lv_tableIn (off := 74) (tgt := 86) hx hb dX7_lineProperty_12 (by rw [c8]; decide) (by rw [c8]; decide) (by rw [c8]; rfl) (by decide) ?_
            refine lv_aload_n hx hb dX7_lineProperty_86 rfl (lv_at hl 0 rfl) ?_
            refine gg_0_5 hx hb hown E hM hk_0 kw_463 dX7_lineProperty_87 ?_
            refine gg_34_13 hx hb hown E hM hk_34 kw_413 dX7_lineProperty_90 ?_
            refine lv_iload_n hx hb dX7_lineProperty_93 rfl (lv_at hl 1 rfl) ?_
            obtain ⟨c15, h⟩ := gchk_e h
            refine g_iald hx hb E hM hk_43 dd_43 c15 dX7_lineProperty_94 ?_
            obtain rfl := Option.some.inj h
            exact g_retX rfl (Nat.le_of_ble_eq_true rfl) (Nat.le_of_ble_eq_true rfl) (g_iret hx hb hr hlocks hM hS dX7_lineProperty_95)
          · replace h := gif_f c8 h
            by_cases c9 : p2 = 4
            · replace h := gif_t c9 h
              refine lv_tableIn (off := 84) (tgt := 96) hx hb dX7_lineProperty_12 (by rw [c9]; decide) (by rw [c9]; decide) (by rw [c9]; rfl) (by decide) ?_
              refine lv_aload_n hx hb dX7_lineProperty_96 rfl (lv_at hl 0 rfl) ?_
              refine gg_0_5 hx hb hown E hM hk_0 kw_463 dX7_lineProperty_97 ?_
              refine lv_iload_n hx hb dX7_lineProperty_100 rfl (lv_at hl 1 rfl) ?_
              obtain ⟨q16, hq16, h⟩ := gbind_e h
              refine g_callV (As := [.int p1]) (rest := []) hx hb (hml.trans hl.1.symm) hown E hM hS hy_X3_isActive kw_812 (c_X3_isActive hq16) hk_34 dd_34 rfl rfl rfl (Nat.le_of_ble_eq_true rfl) ⟨Nat.le_of_ble_eq_true rfl, Nat.le_of_ble_eq_true rfl⟩ ⟨Nat.le_of_ble_eq_true rfl, Nat.le_of_ble_eq_true rfl⟩ dX7_lineProperty_101 (fun H locs hM hS => ?_)
              refine lv_if_eq (tgt := 111) hx hb dX7_lineProperty_104 (by decide) (fun c17 => ?_) (fun c17 => ?_)
              · replace h := gif_t c17 h
                refine lv_iconst (v := (0 : Int32)) hx hb dX7_lineProperty_111 (by decide) ?_
                obtain rfl := Option.some.inj h
                exact g_retX rfl (Nat.le_of_ble_eq_true rfl) (Nat.le_of_ble_eq_true rfl) (g_iret hx hb hr hlocks hM hS dX7_lineProperty_112)
              · replace h := gif_f c17 h
                refine lv_iconst (v := (1 : Int32)) hx hb dX7_lineProperty_107 (by decide) ?_
                refine lv_goto (tgt := 112) hx hb dX7_lineProperty_108 (by decide) ?_
                obtain rfl := Option.some.inj h
                exact g_retX rfl (Nat.le_of_ble_eq_true rfl) (Nat.le_of_ble_eq_true rfl) (g_iret hx hb hr hlocks hM hS dX7_lineProperty_112)
            · replace h := gif_f c9 h
              by_cases c10 : p2 = 5
              · replace h := gif_t c10 h
                refine lv_tableIn (off := 101) (tgt := 113) hx hb dX7_lineProperty_12 (by rw [c10]; decide) (by rw [c10]; decide) (by rw [c10]; rfl) (by decide) ?_
                refine lv_aload_n hx hb dX7_lineProperty_113 rfl (lv_at hl 0 rfl) ?_
                refine gg_0_5 hx hb hown E hM hk_0 kw_463 dX7_lineProperty_114 ?_
                refine lv_iload_n hx hb dX7_lineProperty_117 rfl (lv_at hl 1 rfl) ?_
                obtain ⟨q18, hq18, h⟩ := gbind_e h
                refine g_callV (As := [.int p1]) (rest := []) hx hb (hml.trans hl.1.symm) hown E hM hS hy_X3_lineLength kw_788 (c_X3_lineLength hq18) hk_34 dd_34 rfl rfl rfl (Nat.le_of_ble_eq_true rfl) ⟨Nat.le_of_ble_eq_true rfl, Nat.le_of_ble_eq_true rfl⟩ ⟨Nat.le_of_ble_eq_true rfl, Nat.le_of_ble_eq_true rfl⟩ dX7_lineProperty_118 (fun H locs hM hS => ?_)
                obtain rfl := Option.some.inj h
                exact g_retX rfl (Nat.le_of_ble_eq_true rfl) (Nat.le_of_ble_eq_true rfl) (g_iret hx hb hr hlocks hM hS dX7_lineProperty_121)
              · replace h := gif_f c10 h
                by_cases c11 : p2 = 6
                · replace h := gif_t c11 h
                  refine lv_tableIn (off := 110) (tgt := 122) hx hb dX7_lineProperty_12 (by rw [c11]; decide) (by rw [c11]; decide) (by rw [c11]; rfl) (by decide) ?_
                  refine lv_aload_n hx hb dX7_lineProperty_122 rfl (lv_at hl 0 rfl) ?_
                  refine gg_0_5 hx hb hown E hM hk_0 kw_463 dX7_lineProperty_123 ?_
                  refine lv_iload_n hx hb dX7_lineProperty_126 rfl (lv_at hl 1 rfl) ?_
                  obtain ⟨q19, hq19, h⟩ := gbind_e h
                  refine g_callV (As := [.int p1]) (rest := []) hx hb (hml.trans hl.1.symm) hown E hM hS hy_X3_lineWeight kw_802 (c_X3_lineWeight hq19) hk_34 dd_34 rfl rfl rfl (Nat.le_of_ble_eq_true rfl) ⟨Nat.le_of_ble_eq_true rfl, Nat.le_of_ble_eq_true rfl⟩ ⟨Nat.le_of_ble_eq_true rfl, Nat.le_of_ble_eq_true rfl⟩ dX7_lineProperty_127 (fun H locs hM hS => ?_)
                  obtain rfl := Option.some.inj h
                  exact g_retX rfl (Nat.le_of_ble_eq_true rfl) (Nat.le_of_ble_eq_true rfl) (g_iret hx hb hr hlocks hM hS dX7_lineProperty_130)
                · replace h := gif_f c11 h
                  refine lv_tableOut (tgt := 131) hx hb dX7_lineProperty_12 (g_sw7 c5 c6 c7 c8 c9 c10 c11) (by decide) ?_
                  refine lv_bipush (v := (-2 : Int32)) hx hb dX7_lineProperty_131 (by decide) ?_
                  obtain rfl := Option.some.inj h
                  exact g_retX rfl (Nat.le_of_ble_eq_true rfl) (Nat.le_of_ble_eq_true rfl) (g_iret hx hb hr hlocks hM hS dX7_lineProperty_133)
def f_X7_reading (p1 : Int32) (p2 : Int32) (p3 : Int32) (μ : gM) : Option (Option Int32) :=
  Option.bind (f_X7_needIndex p1 (gi μ 34 2) μ) (fun q1 => Option.elim q1 (some none) (fun v2 => Option.bind (f_X3_hasSetup p1 p2 μ) (fun q4 => if ((b2i q4) = 0) then some (some (-1 : Int32)) else Option.bind (f_X7_isIndex p3 (4 : Int32) μ) (fun q6 => if ((b2i q6) = 0) then some (some (-2 : Int32)) else Option.bind (f_X3_place p1 p2 μ) (fun q8 => gchk (gIn (q8 + p3) 640) (some (some (gi μ 44 (q8 + p3).toNatClampNeg))))))))
set_option maxHeartbeats 4000000 in
set_option maxRecDepth 100000 in
theorem c_X7_reading {l : Launch} {D : va_G} {cy : Nat → ClassId} {ad : Nat → Nat} {base : Nat} {p1 : Int32} {p2 : Int32} {p3 : Int32} {μ : gM} {RES : Option Int32} (h : f_X7_reading p1 p2 p3 μ = some RES) : vx_Met l yX7_reading [.code yX7_reading cX7_reading 4 (some .int)] ({ frames := 7, cells := 1, slots := 6, locals := 103 } : Room) (va_Pc [.ref (ad 0), .int p1, .int p2, .int p3] (gB l gFull D cy ad base μ)) (gQo RES (fun v => some (.int v)) gFull D cy ad base μ) (gX (RES = none) gFull D cy ad base μ) 1 6 (gA base) := by
  refine vx_ofW (cc := cX7_reading) (maxL := 4) (ret := (some .int)) (by decide) rfl ?_
  intro p e s m args below meth c s₁ B hml0 hT hv
  obtain ⟨rfl, E, hM⟩ := hv
  have F : gF p s m meth c cX7_reading RX7 4 (some .int) := gF_of B hml0
  obtain ⟨hx, hb, hml, hown, hlocks, hr⟩ := id F
  have hS : va_S (gA base) s.heap s.heap [] := va_S.rf
  have hl := lv_entry ([.ref (ad 0), .int p1, .int p2, .int p3]) (n := 4) (Nat.le_of_ble_eq_true rfl)
  rw [lg_entry_eq]
  generalize (lg_sl ([.ref (ad 0), .int p1, .int p2, .int p3]) ++ List.replicate (4 - (lg_sl ([.ref (ad 0), .int p1, .int p2, .int p3])).length) Slot.unset).toArray = ls at hl ⊢
  have hl : lv_has ls 4 [(0, .ref (ad 0)), (1, .int p1), (2, .int p2), (3, .int p3)] := hl
  unfold f_X7_reading at h
  refine lv_iload_n hx hb dX7_reading_0 rfl (lv_at hl 1 rfl) ?_
  refine lv_aload_n hx hb dX7_reading_1 rfl (lv_at hl 0 rfl) ?_
  refine gg_0_5 hx hb hown E hM hk_0 kw_463 dX7_reading_2 ?_
  refine gg_34_2 hx hb hown E hM hk_34 kw_367 dX7_reading_5 ?_
  obtain ⟨q1, hq1, h⟩ := gbind_e h
  refine g_callXS (As := [.int p1, .int (gi μ 34 2)]) (rest := []) hx hb (hml.trans hl.1.symm) hown E hM hS hy_X7_needIndex kw_935 (c_X7_needIndex hq1) rfl rfl (Nat.le_of_ble_eq_true rfl) ⟨Nat.le_of_ble_eq_true rfl, Nat.le_of_ble_eq_true rfl⟩ ⟨Nat.le_of_ble_eq_true rfl, Nat.le_of_ble_eq_true rfl⟩ dX7_reading_8 (fun e3 q9 ce H locs hM hS hce hcv hcl => ?_) (fun v2 e3 H locs hM hS => ?_)
  · replace h := gel_n e3 h
    obtain rfl := Option.some.inj h
    exact g_outX hT hlocks rfl hM hS hce hcv hcl (Nat.le_of_ble_eq_true rfl) (Nat.le_of_ble_eq_true rfl)
  · replace h := gel_s e3 h
    refine lv_aload_n hx hb dX7_reading_11 rfl (lv_at hl 0 rfl) ?_
    refine gg_0_5 hx hb hown E hM hk_0 kw_463 dX7_reading_12 ?_
    refine lv_iload_n hx hb dX7_reading_15 rfl (lv_at hl 1 rfl) ?_
    refine lv_iload_n hx hb dX7_reading_16 rfl (lv_at hl 2 rfl) ?_
    obtain ⟨q4, hq4, h⟩ := gbind_e h
    refine g_callV (As := [.int p1, .int p2]) (rest := []) hx hb (hml.trans hl.1.symm) hown E hM hS hy_X3_hasSetup kw_845 (c_X3_hasSetup hq4) hk_34 dd_34 rfl rfl rfl (Nat.le_of_ble_eq_true rfl) ⟨Nat.le_of_ble_eq_true rfl, Nat.le_of_ble_eq_true rfl⟩ ⟨Nat.le_of_ble_eq_true rfl, Nat.le_of_ble_eq_true rfl⟩ dX7_reading_17 (fun H locs hM hS => ?_)
    refine lv_if_ne (tgt := 25) hx hb dX7_reading_20 (by decide) (fun c5 => ?_) (fun c5 => ?_)
    · replace h := gif_f c5 h
      refine lv_iload_n hx hb dX7_reading_25 rfl (lv_at hl 3 rfl) ?_
      refine lv_iconst (v := (4 : Int32)) hx hb dX7_reading_26 (by decide) ?_
      obtain ⟨q6, hq6, h⟩ := gbind_e h
      refine g_callS (As := [.int p3, .int (4 : Int32)]) (rest := []) hx hb (hml.trans hl.1.symm) hown E hM hS hy_X7_isIndex kw_645 (c_X7_isIndex hq6) rfl rfl (Nat.le_of_ble_eq_true rfl) ⟨Nat.le_of_ble_eq_true rfl, Nat.le_of_ble_eq_true rfl⟩ ⟨Nat.le_of_ble_eq_true rfl, Nat.le_of_ble_eq_true rfl⟩ dX7_reading_27 (fun H locs hM hS => ?_)
      refine lv_if_ne (tgt := 36) hx hb dX7_reading_30 (by decide) (fun c7 => ?_) (fun c7 => ?_)
      · replace h := gif_f c7 h
        refine lv_aload_n hx hb dX7_reading_36 rfl (lv_at hl 0 rfl) ?_
        refine gg_0_5 hx hb hown E hM hk_0 kw_463 dX7_reading_37 ?_
        refine gg_34_14 hx hb hown E hM hk_34 kw_417 dX7_reading_40 ?_
        refine lv_aload_n hx hb dX7_reading_43 rfl (lv_at hl 0 rfl) ?_
        refine gg_0_5 hx hb hown E hM hk_0 kw_463 dX7_reading_44 ?_
        refine lv_iload_n hx hb dX7_reading_47 rfl (lv_at hl 1 rfl) ?_
        refine lv_iload_n hx hb dX7_reading_48 rfl (lv_at hl 2 rfl) ?_
        obtain ⟨q8, hq8, h⟩ := gbind_e h
        refine g_callV (As := [.int p1, .int p2]) (rest := [.ref (ad 44)]) hx hb (hml.trans hl.1.symm) hown E hM hS hy_X3_place kw_855 (c_X3_place hq8) hk_34 dd_34 rfl rfl rfl (Nat.le_of_ble_eq_true rfl) ⟨Nat.le_of_ble_eq_true rfl, Nat.le_of_ble_eq_true rfl⟩ ⟨Nat.le_of_ble_eq_true rfl, Nat.le_of_ble_eq_true rfl⟩ dX7_reading_49 (fun H locs hM hS => ?_)
        refine lv_iload_n hx hb dX7_reading_52 rfl (lv_at hl 3 rfl) ?_
        refine lv_iadd hx hb dX7_reading_53 ?_
        obtain ⟨c9, h⟩ := gchk_e h
        refine g_iald hx hb E hM hk_44 dd_44 c9 dX7_reading_54 ?_
        obtain rfl := Option.some.inj h
        exact g_retX rfl (Nat.le_of_ble_eq_true rfl) (Nat.le_of_ble_eq_true rfl) (g_iret hx hb hr hlocks hM hS dX7_reading_55)
      · replace h := gif_t c7 h
        refine lv_bipush (v := (-2 : Int32)) hx hb dX7_reading_33 (by decide) ?_
        obtain rfl := Option.some.inj h
        exact g_retX rfl (Nat.le_of_ble_eq_true rfl) (Nat.le_of_ble_eq_true rfl) (g_iret hx hb hr hlocks hM hS dX7_reading_35)
    · replace h := gif_t c5 h
      refine lv_iconst (v := (-1 : Int32)) hx hb dX7_reading_23 (by decide) ?_
      obtain rfl := Option.some.inj h
      exact g_retX rfl (Nat.le_of_ble_eq_true rfl) (Nat.le_of_ble_eq_true rfl) (g_iret hx hb hr hlocks hM hS dX7_reading_24)
def f_X7_stepOf (p1 : Int32) (p2 : Int32) (μ : gM) : Option (Option Int32) :=
  Option.bind (f_X7_needIndex p1 (gi μ 34 2) μ) (fun q1 => Option.elim q1 (some none) (fun v2 => Option.bind (f_X3_hasSetup p1 p2 μ) (fun q4 => if ((b2i q4) = 0) then some (some (-2147483648 : Int32)) else Option.bind (f_X3_setupRise p1 p2 μ) (fun q6 => some (some q6)))))
set_option maxHeartbeats 4000000 in
set_option maxRecDepth 100000 in
theorem c_X7_stepOf {l : Launch} {D : va_G} {cy : Nat → ClassId} {ad : Nat → Nat} {base : Nat} {p1 : Int32} {p2 : Int32} {μ : gM} {RES : Option Int32} (h : f_X7_stepOf p1 p2 μ = some RES) : vx_Met l yX7_stepOf [.code yX7_stepOf cX7_stepOf 3 (some .int)] ({ frames := 7, cells := 1, slots := 6, locals := 103 } : Room) (va_Pc [.ref (ad 0), .int p1, .int p2] (gB l gFull D cy ad base μ)) (gQo RES (fun v => some (.int v)) gFull D cy ad base μ) (gX (RES = none) gFull D cy ad base μ) 1 6 (gA base) := by
  refine vx_ofW (cc := cX7_stepOf) (maxL := 3) (ret := (some .int)) (by decide) rfl ?_
  intro p e s m args below meth c s₁ B hml0 hT hv
  obtain ⟨rfl, E, hM⟩ := hv
  have F : gF p s m meth c cX7_stepOf RX7 3 (some .int) := gF_of B hml0
  obtain ⟨hx, hb, hml, hown, hlocks, hr⟩ := id F
  have hS : va_S (gA base) s.heap s.heap [] := va_S.rf
  have hl := lv_entry ([.ref (ad 0), .int p1, .int p2]) (n := 3) (Nat.le_of_ble_eq_true rfl)
  rw [lg_entry_eq]
  generalize (lg_sl ([.ref (ad 0), .int p1, .int p2]) ++ List.replicate (3 - (lg_sl ([.ref (ad 0), .int p1, .int p2])).length) Slot.unset).toArray = ls at hl ⊢
  have hl : lv_has ls 3 [(0, .ref (ad 0)), (1, .int p1), (2, .int p2)] := hl
  unfold f_X7_stepOf at h
  refine lv_iload_n hx hb dX7_stepOf_0 rfl (lv_at hl 1 rfl) ?_
  refine lv_aload_n hx hb dX7_stepOf_1 rfl (lv_at hl 0 rfl) ?_
  refine gg_0_5 hx hb hown E hM hk_0 kw_463 dX7_stepOf_2 ?_
  refine gg_34_2 hx hb hown E hM hk_34 kw_367 dX7_stepOf_5 ?_
  obtain ⟨q1, hq1, h⟩ := gbind_e h
  refine g_callXS (As := [.int p1, .int (gi μ 34 2)]) (rest := []) hx hb (hml.trans hl.1.symm) hown E hM hS hy_X7_needIndex kw_935 (c_X7_needIndex hq1) rfl rfl (Nat.le_of_ble_eq_true rfl) ⟨Nat.le_of_ble_eq_true rfl, Nat.le_of_ble_eq_true rfl⟩ ⟨Nat.le_of_ble_eq_true rfl, Nat.le_of_ble_eq_true rfl⟩ dX7_stepOf_8 (fun e3 q9 ce H locs hM hS hce hcv hcl => ?_) (fun v2 e3 H locs hM hS => ?_)
  · replace h := gel_n e3 h
    obtain rfl := Option.some.inj h
    exact g_outX hT hlocks rfl hM hS hce hcv hcl (Nat.le_of_ble_eq_true rfl) (Nat.le_of_ble_eq_true rfl)
  · replace h := gel_s e3 h
    refine lv_aload_n hx hb dX7_stepOf_11 rfl (lv_at hl 0 rfl) ?_
    refine gg_0_5 hx hb hown E hM hk_0 kw_463 dX7_stepOf_12 ?_
    refine lv_iload_n hx hb dX7_stepOf_15 rfl (lv_at hl 1 rfl) ?_
    refine lv_iload_n hx hb dX7_stepOf_16 rfl (lv_at hl 2 rfl) ?_
    obtain ⟨q4, hq4, h⟩ := gbind_e h
    refine g_callV (As := [.int p1, .int p2]) (rest := []) hx hb (hml.trans hl.1.symm) hown E hM hS hy_X3_hasSetup kw_845 (c_X3_hasSetup hq4) hk_34 dd_34 rfl rfl rfl (Nat.le_of_ble_eq_true rfl) ⟨Nat.le_of_ble_eq_true rfl, Nat.le_of_ble_eq_true rfl⟩ ⟨Nat.le_of_ble_eq_true rfl, Nat.le_of_ble_eq_true rfl⟩ dX7_stepOf_17 (fun H locs hM hS => ?_)
    refine lv_if_ne (tgt := 26) hx hb dX7_stepOf_20 (by decide) (fun c5 => ?_) (fun c5 => ?_)
    · replace h := gif_f c5 h
      refine lv_aload_n hx hb dX7_stepOf_26 rfl (lv_at hl 0 rfl) ?_
      refine gg_0_5 hx hb hown E hM hk_0 kw_463 dX7_stepOf_27 ?_
      refine lv_iload_n hx hb dX7_stepOf_30 rfl (lv_at hl 1 rfl) ?_
      refine lv_iload_n hx hb dX7_stepOf_31 rfl (lv_at hl 2 rfl) ?_
      obtain ⟨q6, hq6, h⟩ := gbind_e h
      refine g_callV (As := [.int p1, .int p2]) (rest := []) hx hb (hml.trans hl.1.symm) hown E hM hS hy_X3_setupRise kw_1039 (c_X3_setupRise hq6) hk_34 dd_34 rfl rfl rfl (Nat.le_of_ble_eq_true rfl) ⟨Nat.le_of_ble_eq_true rfl, Nat.le_of_ble_eq_true rfl⟩ ⟨Nat.le_of_ble_eq_true rfl, Nat.le_of_ble_eq_true rfl⟩ dX7_stepOf_32 (fun H locs hM hS => ?_)
      obtain rfl := Option.some.inj h
      exact g_retX rfl (Nat.le_of_ble_eq_true rfl) (Nat.le_of_ble_eq_true rfl) (g_iret hx hb hr hlocks hM hS dX7_stepOf_35)
    · replace h := gif_t c5 h
      refine lv_ldc hx hb hown (v := (-2147483648 : Int32)) (E.kw kw_868) dX7_stepOf_23 ?_
      obtain rfl := Option.some.inj h
      exact g_retX rfl (Nat.le_of_ble_eq_true rfl) (Nat.le_of_ble_eq_true rfl) (g_iret hx hb hr hlocks hM hS dX7_stepOf_25)
def f_X7_riseOf (p1 : Int32) (μ : gM) : Option (Option Int32) :=
  Option.bind (f_X7_needIndex p1 (gi μ 34 2) μ) (fun q1 => Option.elim q1 (some none) (fun v2 => Option.bind (f_X3_lineRise p1 μ) (fun q4 => some (some q4))))
set_option maxHeartbeats 4000000 in
set_option maxRecDepth 100000 in
theorem c_X7_riseOf {l : Launch} {D : va_G} {cy : Nat → ClassId} {ad : Nat → Nat} {base : Nat} {p1 : Int32} {μ : gM} {RES : Option Int32} (h : f_X7_riseOf p1 μ = some RES) : vx_Met l yX7_riseOf [.code yX7_riseOf cX7_riseOf 2 (some .int)] ({ frames := 7, cells := 1, slots := 6, locals := 103 } : Room) (va_Pc [.ref (ad 0), .int p1] (gB l gFull D cy ad base μ)) (gQo RES (fun v => some (.int v)) gFull D cy ad base μ) (gX (RES = none) gFull D cy ad base μ) 1 6 (gA base) := by
  refine vx_ofW (cc := cX7_riseOf) (maxL := 2) (ret := (some .int)) (by decide) rfl ?_
  intro p e s m args below meth c s₁ B hml0 hT hv
  obtain ⟨rfl, E, hM⟩ := hv
  have F : gF p s m meth c cX7_riseOf RX7 2 (some .int) := gF_of B hml0
  obtain ⟨hx, hb, hml, hown, hlocks, hr⟩ := id F
  have hS : va_S (gA base) s.heap s.heap [] := va_S.rf
  have hl := lv_entry ([.ref (ad 0), .int p1]) (n := 2) (Nat.le_of_ble_eq_true rfl)
  rw [lg_entry_eq]
  generalize (lg_sl ([.ref (ad 0), .int p1]) ++ List.replicate (2 - (lg_sl ([.ref (ad 0), .int p1])).length) Slot.unset).toArray = ls at hl ⊢
  have hl : lv_has ls 2 [(0, .ref (ad 0)), (1, .int p1)] := hl
  unfold f_X7_riseOf at h
  refine lv_iload_n hx hb dX7_riseOf_0 rfl (lv_at hl 1 rfl) ?_
  refine lv_aload_n hx hb dX7_riseOf_1 rfl (lv_at hl 0 rfl) ?_
  refine gg_0_5 hx hb hown E hM hk_0 kw_463 dX7_riseOf_2 ?_
  refine gg_34_2 hx hb hown E hM hk_34 kw_367 dX7_riseOf_5 ?_
  obtain ⟨q1, hq1, h⟩ := gbind_e h
  refine g_callXS (As := [.int p1, .int (gi μ 34 2)]) (rest := []) hx hb (hml.trans hl.1.symm) hown E hM hS hy_X7_needIndex kw_935 (c_X7_needIndex hq1) rfl rfl (Nat.le_of_ble_eq_true rfl) ⟨Nat.le_of_ble_eq_true rfl, Nat.le_of_ble_eq_true rfl⟩ ⟨Nat.le_of_ble_eq_true rfl, Nat.le_of_ble_eq_true rfl⟩ dX7_riseOf_8 (fun e3 q9 ce H locs hM hS hce hcv hcl => ?_) (fun v2 e3 H locs hM hS => ?_)
  · replace h := gel_n e3 h
    obtain rfl := Option.some.inj h
    exact g_outX hT hlocks rfl hM hS hce hcv hcl (Nat.le_of_ble_eq_true rfl) (Nat.le_of_ble_eq_true rfl)
  · replace h := gel_s e3 h
    refine lv_aload_n hx hb dX7_riseOf_11 rfl (lv_at hl 0 rfl) ?_
    refine gg_0_5 hx hb hown E hM hk_0 kw_463 dX7_riseOf_12 ?_
    refine lv_iload_n hx hb dX7_riseOf_15 rfl (lv_at hl 1 rfl) ?_
    obtain ⟨q4, hq4, h⟩ := gbind_e h
    refine g_callV (As := [.int p1]) (rest := []) hx hb (hml.trans hl.1.symm) hown E hM hS hy_X3_lineRise kw_1047 (c_X3_lineRise hq4) hk_34 dd_34 rfl rfl rfl (Nat.le_of_ble_eq_true rfl) ⟨Nat.le_of_ble_eq_true rfl, Nat.le_of_ble_eq_true rfl⟩ ⟨Nat.le_of_ble_eq_true rfl, Nat.le_of_ble_eq_true rfl⟩ dX7_riseOf_16 (fun H locs hM hS => ?_)
    obtain rfl := Option.some.inj h
    exact g_retX rfl (Nat.le_of_ble_eq_true rfl) (Nat.le_of_ble_eq_true rfl) (g_iret hx hb hr hlocks hM hS dX7_riseOf_19)
def f_X7_collimationEffect (p1 : Int32) (μ : gM) : Option (Option Int32) :=
  Option.bind (f_X7_needIndex p1 (gi μ 34 2) μ) (fun q1 => Option.elim q1 (some none) (fun v2 => gchk (gIn p1 20) (gchk (gIn (gi μ 42 p1.toNatClampNeg) 3) (Option.bind (f_X3_lineImbalance p1 μ) (fun q6 => some (some ((-(gi μ 37 (gi μ 42 p1.toNatClampNeg).toNatClampNeg)) * q6)))))))
set_option maxHeartbeats 4000000 in
set_option maxRecDepth 100000 in
theorem c_X7_collimationEffect {l : Launch} {D : va_G} {cy : Nat → ClassId} {ad : Nat → Nat} {base : Nat} {p1 : Int32} {μ : gM} {RES : Option Int32} (h : f_X7_collimationEffect p1 μ = some RES) : vx_Met l yX7_collimationEffect [.code yX7_collimationEffect cX7_collimationEffect 2 (some .int)] ({ frames := 7, cells := 1, slots := 6, locals := 103 } : Room) (va_Pc [.ref (ad 0), .int p1] (gB l gFull D cy ad base μ)) (gQo RES (fun v => some (.int v)) gFull D cy ad base μ) (gX (RES = none) gFull D cy ad base μ) 1 6 (gA base) := by
  refine vx_ofW (cc := cX7_collimationEffect) (maxL := 2) (ret := (some .int)) (by decide) rfl ?_
  intro p e s m args below meth c s₁ B hml0 hT hv
  obtain ⟨rfl, E, hM⟩ := hv
  have F : gF p s m meth c cX7_collimationEffect RX7 2 (some .int) := gF_of B hml0
  obtain ⟨hx, hb, hml, hown, hlocks, hr⟩ := id F
  have hS : va_S (gA base) s.heap s.heap [] := va_S.rf
  have hl := lv_entry ([.ref (ad 0), .int p1]) (n := 2) (Nat.le_of_ble_eq_true rfl)
  rw [lg_entry_eq]
  generalize (lg_sl ([.ref (ad 0), .int p1]) ++ List.replicate (2 - (lg_sl ([.ref (ad 0), .int p1])).length) Slot.unset).toArray = ls at hl ⊢
  have hl : lv_has ls 2 [(0, .ref (ad 0)), (1, .int p1)] := hl
  unfold f_X7_collimationEffect at h
  refine lv_iload_n hx hb dX7_collimationEffect_0 rfl (lv_at hl 1 rfl) ?_
  refine lv_aload_n hx hb dX7_collimationEffect_1 rfl (lv_at hl 0 rfl) ?_
  refine gg_0_5 hx hb hown E hM hk_0 kw_463 dX7_collimationEffect_2 ?_
  refine gg_34_2 hx hb hown E hM hk_34 kw_367 dX7_collimationEffect_5 ?_
  obtain ⟨q1, hq1, h⟩ := gbind_e h
  refine g_callXS (As := [.int p1, .int (gi μ 34 2)]) (rest := []) hx hb (hml.trans hl.1.symm) hown E hM hS hy_X7_needIndex kw_935 (c_X7_needIndex hq1) rfl rfl (Nat.le_of_ble_eq_true rfl) ⟨Nat.le_of_ble_eq_true rfl, Nat.le_of_ble_eq_true rfl⟩ ⟨Nat.le_of_ble_eq_true rfl, Nat.le_of_ble_eq_true rfl⟩ dX7_collimationEffect_8 (fun e3 q9 ce H locs hM hS hce hcv hcl => ?_) (fun v2 e3 H locs hM hS => ?_)
  · replace h := gel_n e3 h
    obtain rfl := Option.some.inj h
    exact g_outX hT hlocks rfl hM hS hce hcv hcl (Nat.le_of_ble_eq_true rfl) (Nat.le_of_ble_eq_true rfl)
  · replace h := gel_s e3 h
    refine lv_aload_n hx hb dX7_collimationEffect_11 rfl (lv_at hl 0 rfl) ?_
    refine gg_0_5 hx hb hown E hM hk_0 kw_463 dX7_collimationEffect_12 ?_
    refine gg_34_7 hx hb hown E hM hk_34 kw_387 dX7_collimationEffect_15 ?_
    refine lv_aload_n hx hb dX7_collimationEffect_18 rfl (lv_at hl 0 rfl) ?_
    refine gg_0_5 hx hb hown E hM hk_0 kw_463 dX7_collimationEffect_19 ?_
    refine gg_34_12 hx hb hown E hM hk_34 kw_409 dX7_collimationEffect_22 ?_
    refine lv_iload_n hx hb dX7_collimationEffect_25 rfl (lv_at hl 1 rfl) ?_
    obtain ⟨c4, h⟩ := gchk_e h
    refine g_iald hx hb E hM hk_42 dd_42 c4 dX7_collimationEffect_26 ?_
    obtain ⟨c5, h⟩ := gchk_e h
    refine g_iald hx hb E hM hk_37 dd_37 c5 dX7_collimationEffect_27 ?_
    refine lv_ineg hx hb dX7_collimationEffect_28 ?_
    refine lv_aload_n hx hb dX7_collimationEffect_29 rfl (lv_at hl 0 rfl) ?_
    refine gg_0_5 hx hb hown E hM hk_0 kw_463 dX7_collimationEffect_30 ?_
    refine lv_iload_n hx hb dX7_collimationEffect_33 rfl (lv_at hl 1 rfl) ?_
    obtain ⟨q6, hq6, h⟩ := gbind_e h
    refine g_callV (As := [.int p1]) (rest := [.int (-(gi μ 37 (gi μ 42 p1.toNatClampNeg).toNatClampNeg))]) hx hb (hml.trans hl.1.symm) hown E hM hS hy_X3_lineImbalance kw_1055 (c_X3_lineImbalance hq6) hk_34 dd_34 rfl rfl rfl (Nat.le_of_ble_eq_true rfl) ⟨Nat.le_of_ble_eq_true rfl, Nat.le_of_ble_eq_true rfl⟩ ⟨Nat.le_of_ble_eq_true rfl, Nat.le_of_ble_eq_true rfl⟩ dX7_collimationEffect_34 (fun H locs hM hS => ?_)
    refine lv_imul hx hb dX7_collimationEffect_37 ?_
    obtain rfl := Option.some.inj h
    exact g_retX rfl (Nat.le_of_ble_eq_true rfl) (Nat.le_of_ble_eq_true rfl) (g_iret hx hb hr hlocks hM hS dX7_collimationEffect_38)
def f_X7_imbalance (p1 : Int32) (μ : gM) : Option (Option Int32) :=
  Option.bind (f_X7_needIndex p1 (gi μ 34 2) μ) (fun q1 => Option.elim q1 (some none) (fun v2 => Option.bind (f_X3_lineImbalance p1 μ) (fun q4 => some (some q4))))
set_option maxHeartbeats 4000000 in
set_option maxRecDepth 100000 in
theorem c_X7_imbalance {l : Launch} {D : va_G} {cy : Nat → ClassId} {ad : Nat → Nat} {base : Nat} {p1 : Int32} {μ : gM} {RES : Option Int32} (h : f_X7_imbalance p1 μ = some RES) : vx_Met l yX7_imbalance [.code yX7_imbalance cX7_imbalance 2 (some .int)] ({ frames := 7, cells := 1, slots := 6, locals := 103 } : Room) (va_Pc [.ref (ad 0), .int p1] (gB l gFull D cy ad base μ)) (gQo RES (fun v => some (.int v)) gFull D cy ad base μ) (gX (RES = none) gFull D cy ad base μ) 1 6 (gA base) := by
  refine vx_ofW (cc := cX7_imbalance) (maxL := 2) (ret := (some .int)) (by decide) rfl ?_
  intro p e s m args below meth c s₁ B hml0 hT hv
  obtain ⟨rfl, E, hM⟩ := hv
  have F : gF p s m meth c cX7_imbalance RX7 2 (some .int) := gF_of B hml0
  obtain ⟨hx, hb, hml, hown, hlocks, hr⟩ := id F
  have hS : va_S (gA base) s.heap s.heap [] := va_S.rf
  have hl := lv_entry ([.ref (ad 0), .int p1]) (n := 2) (Nat.le_of_ble_eq_true rfl)
  rw [lg_entry_eq]
  generalize (lg_sl ([.ref (ad 0), .int p1]) ++ List.replicate (2 - (lg_sl ([.ref (ad 0), .int p1])).length) Slot.unset).toArray = ls at hl ⊢
  have hl : lv_has ls 2 [(0, .ref (ad 0)), (1, .int p1)] := hl
  unfold f_X7_imbalance at h
  refine lv_iload_n hx hb dX7_imbalance_0 rfl (lv_at hl 1 rfl) ?_
  refine lv_aload_n hx hb dX7_imbalance_1 rfl (lv_at hl 0 rfl) ?_
  refine gg_0_5 hx hb hown E hM hk_0 kw_463 dX7_imbalance_2 ?_
  refine gg_34_2 hx hb hown E hM hk_34 kw_367 dX7_imbalance_5 ?_
  obtain ⟨q1, hq1, h⟩ := gbind_e h
  refine g_callXS (As := [.int p1, .int (gi μ 34 2)]) (rest := []) hx hb (hml.trans hl.1.symm) hown E hM hS hy_X7_needIndex kw_935 (c_X7_needIndex hq1) rfl rfl (Nat.le_of_ble_eq_true rfl) ⟨Nat.le_of_ble_eq_true rfl, Nat.le_of_ble_eq_true rfl⟩ ⟨Nat.le_of_ble_eq_true rfl, Nat.le_of_ble_eq_true rfl⟩ dX7_imbalance_8 (fun e3 q9 ce H locs hM hS hce hcv hcl => ?_) (fun v2 e3 H locs hM hS => ?_)
  · replace h := gel_n e3 h
    obtain rfl := Option.some.inj h
    exact g_outX hT hlocks rfl hM hS hce hcv hcl (Nat.le_of_ble_eq_true rfl) (Nat.le_of_ble_eq_true rfl)
  · replace h := gel_s e3 h
    refine lv_aload_n hx hb dX7_imbalance_11 rfl (lv_at hl 0 rfl) ?_
    refine gg_0_5 hx hb hown E hM hk_0 kw_463 dX7_imbalance_12 ?_
    refine lv_iload_n hx hb dX7_imbalance_15 rfl (lv_at hl 1 rfl) ?_
    obtain ⟨q4, hq4, h⟩ := gbind_e h
    refine g_callV (As := [.int p1]) (rest := []) hx hb (hml.trans hl.1.symm) hown E hM hS hy_X3_lineImbalance kw_1055 (c_X3_lineImbalance hq4) hk_34 dd_34 rfl rfl rfl (Nat.le_of_ble_eq_true rfl) ⟨Nat.le_of_ble_eq_true rfl, Nat.le_of_ble_eq_true rfl⟩ ⟨Nat.le_of_ble_eq_true rfl, Nat.le_of_ble_eq_true rfl⟩ dX7_imbalance_16 (fun H locs hM hS => ?_)
    obtain rfl := Option.some.inj h
    exact g_retX rfl (Nat.le_of_ble_eq_true rfl) (Nat.le_of_ble_eq_true rfl) (g_iret hx hb hr hlocks hM hS dX7_imbalance_19)
def f_X7_faultsOf (p1 : Int32) (μ : gM) : Option (Option Int32) :=
  Option.bind (f_X7_needIndex p1 (gi μ 34 2) μ) (fun q1 => Option.elim q1 (some none) (fun v2 => Option.bind (f_X3_longSights p1 μ) (fun q4 => Option.bind (f_X3_lineImbalance p1 μ) (fun q5 => gchk (gIn (2 : Int32) 3) (if ((iabs q5) ≤ (gi μ 35 (2 : Int32).toNatClampNeg)) then some (some q4) else some (some (q4 + (1000 : Int32))))))))
set_option maxHeartbeats 4000000 in
set_option maxRecDepth 100000 in
theorem c_X7_faultsOf {l : Launch} {D : va_G} {cy : Nat → ClassId} {ad : Nat → Nat} {base : Nat} {p1 : Int32} {μ : gM} {RES : Option Int32} (h : f_X7_faultsOf p1 μ = some RES) : vx_Met l yX7_faultsOf [.code yX7_faultsOf cX7_faultsOf 3 (some .int)] ({ frames := 7, cells := 1, slots := 6, locals := 103 } : Room) (va_Pc [.ref (ad 0), .int p1] (gB l gFull D cy ad base μ)) (gQo RES (fun v => some (.int v)) gFull D cy ad base μ) (gX (RES = none) gFull D cy ad base μ) 1 6 (gA base) := by
  refine vx_ofW (cc := cX7_faultsOf) (maxL := 3) (ret := (some .int)) (by decide) rfl ?_
  intro p e s m args below meth c s₁ B hml0 hT hv
  obtain ⟨rfl, E, hM⟩ := hv
  have F : gF p s m meth c cX7_faultsOf RX7 3 (some .int) := gF_of B hml0
  obtain ⟨hx, hb, hml, hown, hlocks, hr⟩ := id F
  have hS : va_S (gA base) s.heap s.heap [] := va_S.rf
  have hl := lv_entry ([.ref (ad 0), .int p1]) (n := 3) (Nat.le_of_ble_eq_true rfl)
  rw [lg_entry_eq]
  generalize (lg_sl ([.ref (ad 0), .int p1]) ++ List.replicate (3 - (lg_sl ([.ref (ad 0), .int p1])).length) Slot.unset).toArray = ls at hl ⊢
  have hl : lv_has ls 3 [(0, .ref (ad 0)), (1, .int p1)] := hl
  unfold f_X7_faultsOf at h
  refine lv_iload_n hx hb dX7_faultsOf_0 rfl (lv_at hl 1 rfl) ?_
  refine lv_aload_n hx hb dX7_faultsOf_1 rfl (lv_at hl 0 rfl) ?_
  refine gg_0_5 hx hb hown E hM hk_0 kw_463 dX7_faultsOf_2 ?_
  refine gg_34_2 hx hb hown E hM hk_34 kw_367 dX7_faultsOf_5 ?_
  obtain ⟨q1, hq1, h⟩ := gbind_e h
  refine g_callXS (As := [.int p1, .int (gi μ 34 2)]) (rest := []) hx hb (hml.trans hl.1.symm) hown E hM hS hy_X7_needIndex kw_935 (c_X7_needIndex hq1) rfl rfl (Nat.le_of_ble_eq_true rfl) ⟨Nat.le_of_ble_eq_true rfl, Nat.le_of_ble_eq_true rfl⟩ ⟨Nat.le_of_ble_eq_true rfl, Nat.le_of_ble_eq_true rfl⟩ dX7_faultsOf_8 (fun e3 q9 ce H locs hM hS hce hcv hcl => ?_) (fun v2 e3 H locs hM hS => ?_)
  · replace h := gel_n e3 h
    obtain rfl := Option.some.inj h
    exact g_outX hT hlocks rfl hM hS hce hcv hcl (Nat.le_of_ble_eq_true rfl) (Nat.le_of_ble_eq_true rfl)
  · replace h := gel_s e3 h
    refine lv_aload_n hx hb dX7_faultsOf_11 rfl (lv_at hl 0 rfl) ?_
    refine gg_0_5 hx hb hown E hM hk_0 kw_463 dX7_faultsOf_12 ?_
    refine lv_iload_n hx hb dX7_faultsOf_15 rfl (lv_at hl 1 rfl) ?_
    obtain ⟨q4, hq4, h⟩ := gbind_e h
    refine g_callV (As := [.int p1]) (rest := []) hx hb (hml.trans hl.1.symm) hown E hM hS hy_X3_longSights kw_1073 (c_X3_longSights hq4) hk_34 dd_34 rfl rfl rfl (Nat.le_of_ble_eq_true rfl) ⟨Nat.le_of_ble_eq_true rfl, Nat.le_of_ble_eq_true rfl⟩ ⟨Nat.le_of_ble_eq_true rfl, Nat.le_of_ble_eq_true rfl⟩ dX7_faultsOf_16 (fun H locs hM hS => ?_)
    refine lv_istore_n (lv' := [(2, .int q4), (0, .ref (ad 0)), (1, .int p1)]) hx hb dX7_faultsOf_19 rfl hl (by decide) rfl (fun ls hl => ?_)
    refine lv_aload_n hx hb dX7_faultsOf_20 rfl (lv_at hl 1 rfl) ?_
    refine gg_0_5 hx hb hown E hM hk_0 kw_463 dX7_faultsOf_21 ?_
    refine lv_iload_n hx hb dX7_faultsOf_24 rfl (lv_at hl 2 rfl) ?_
    obtain ⟨q5, hq5, h⟩ := gbind_e h
    refine g_callV (As := [.int p1]) (rest := []) hx hb (hml.trans hl.1.symm) hown E hM hS hy_X3_lineImbalance kw_1055 (c_X3_lineImbalance hq5) hk_34 dd_34 rfl rfl rfl (Nat.le_of_ble_eq_true rfl) ⟨Nat.le_of_ble_eq_true rfl, Nat.le_of_ble_eq_true rfl⟩ ⟨Nat.le_of_ble_eq_true rfl, Nat.le_of_ble_eq_true rfl⟩ dX7_faultsOf_25 (fun H locs hM hS => ?_)
    refine va_mabs hx hb (hml.trans hl.1.symm) hown (E.kw kw_1077) (E.kw kw_734) (E.kw kw_119) (E.kw kw_735) (Nat.le_of_ble_eq_true rfl) (Nat.le_of_ble_eq_true rfl) (Nat.le_of_ble_eq_true rfl) (Nat.le_of_ble_eq_true rfl) dX7_faultsOf_28 ?_
    refine lv_aload_n hx hb dX7_faultsOf_31 rfl (lv_at hl 1 rfl) ?_
    refine gg_0_5 hx hb hown E hM hk_0 kw_463 dX7_faultsOf_32 ?_
    refine gg_34_5 hx hb hown E hM hk_34 kw_381 dX7_faultsOf_35 ?_
    refine lv_iconst (v := (2 : Int32)) hx hb dX7_faultsOf_38 (by decide) ?_
    obtain ⟨c6, h⟩ := gchk_e h
    refine g_iald hx hb E hM hk_35 dd_35 c6 dX7_faultsOf_39 ?_
    refine lv_icmp_le (tgt := 49) hx hb dX7_faultsOf_40 (by decide) (fun c7 => ?_) (fun c7 => ?_)
    · replace h := gif_t c7 h
      refine lv_iload_n hx hb dX7_faultsOf_49 rfl (lv_at hl 0 rfl) ?_
      obtain rfl := Option.some.inj h
      exact g_retX rfl (Nat.le_of_ble_eq_true rfl) (Nat.le_of_ble_eq_true rfl) (g_iret hx hb hr hlocks hM hS dX7_faultsOf_50)
    · replace h := gif_f c7 h
      refine lv_iincW (v := (q4 + (1000 : Int32))) (lv' := [(2, .int (q4 + (1000 : Int32))), (0, .ref (ad 0)), (1, .int p1)]) hx hb dX7_faultsOf_43 hl (k := 0) rfl rfl (by decide) rfl (fun ls hl => ?_)
      refine lv_iload_n hx hb dX7_faultsOf_49 rfl (lv_at hl 0 rfl) ?_
      obtain rfl := Option.some.inj h
      exact g_retX rfl (Nat.le_of_ble_eq_true rfl) (Nat.le_of_ble_eq_true rfl) (g_iret hx hb hr hlocks hM hS dX7_faultsOf_50)
def b_X7_turningHeight_71 (x1 : Int32) (x2 : Int32) (x3 : Int64) (x5 : Int32) (μ : gM) : Option ((Int64 × Int32) ⊕ (Int64)) :=
  if (x2 < x5) then some (.inr x3) else if ((8 : Int32) ≤ x5) then some (.inr x3) else Option.bind (f_X3_setupRise x1 x5 μ) (fun q12 => some (.inl ((x3 + q12.toInt64), (x5 + (1 : Int32)))))
set_option maxHeartbeats 4000000 in
set_option maxRecDepth 100000 in
theorem wb_X7_turningHeight_71 {p : Program} {l : Launch} {e : Env} {s : State} {m : MethodId} {args : Array Value} {below : List Frame} {meth : Method} {c : Code} {D : va_G} {cy : Nat → ClassId} {ad : Nat → Nat} {base : Nat} {x1 : Int32} {x2 : Int32} {x3 : Int64} {x5 : Int32} {μ : gM} {o : (Int64 × Int32) ⊕ (Int64)} {RES : (Option Int64) × gM} (h : b_X7_turningHeight_71 x1 x2 x3 x5 μ = some o) (F : gF p s m meth c cX7_turningHeight RX7 6 (some .long)) (E : gEnv l D cy ad base s) (kc : ∀ (t : Int64 × Int32) {H : Heap} {locs : List Loc} {ls : Array Slot}, o = .inl t → gW gFull D cy ad base μ H → va_S (gA base) s.heap H locs → lv_has ls 6 [(0, .ref (ad 0)), (1, .int x1), (2, .int x2), (3, .long t.1), (5, .int t.2)] → W p l e ({ frames := 7, cells := 1, slots := 6, locals := 116 } : Room) s m args below meth c H locs 1 6 (vx_MQ below (gQo RES.1 (fun v => some (.long v)) gFull D cy ad base RES.2) (gX (RES.1 = none) gFull D cy ad base RES.2) args s 1 6 (gA base)) (F0 m 71 ls [])) (kx : ∀ (t : Int64) {H : Heap} {locs : List Loc} {ls : Array Slot}, o = .inr t → gW gFull D cy ad base μ H → va_S (gA base) s.heap H locs → lv_has ls 6 [(3, .long t)] → W p l e ({ frames := 7, cells := 1, slots := 6, locals := 116 } : Room) s m args below meth c H locs 1 6 (vx_MQ below (gQo RES.1 (fun v => some (.long v)) gFull D cy ad base RES.2) (gX (RES.1 = none) gFull D cy ad base RES.2) args s 1 6 (gA base)) (F0 m 104 ls []))  {H : Heap} {locs : List Loc} {ls : Array Slot} (hM : gW gFull D cy ad base μ H) (hS : va_S (gA base) s.heap H locs) (hl : lv_has ls 6 [(0, .ref (ad 0)), (1, .int x1), (2, .int x2), (3, .long x3), (5, .int x5)]) : W p l e ({ frames := 7, cells := 1, slots := 6, locals := 116 } : Room) s m args below meth c H locs 1 6 (vx_MQ below (gQo RES.1 (fun v => some (.long v)) gFull D cy ad base RES.2) (gX (RES.1 = none) gFull D cy ad base RES.2) args s 1 6 (gA base)) (F0 m 71 ls []) := by
  obtain ⟨hx, hb, hml, hown, hlocks, hr⟩ := id F
  unfold b_X7_turningHeight_71 at h
  refine lv_iload hx hb dX7_turningHeight_71 (lv_at hl 4 rfl) ?_
  refine lv_iload_n hx hb dX7_turningHeight_73 rfl (lv_at hl 2 rfl) ?_
  refine lv_icmp_gt (tgt := 104) hx hb dX7_turningHeight_74 (by decide) (fun c10 => ?_) (fun c10 => ?_)
  · replace h := gif_t c10 h
    exact kx _ (Option.some.inj h).symm hM hS (lv_sub hl [3] rfl)
  · replace h := gif_f c10 h
    refine lv_iload hx hb dX7_turningHeight_77 (lv_at hl 4 rfl) ?_
    refine lv_bipush (v := (8 : Int32)) hx hb dX7_turningHeight_79 (by decide) ?_
    refine lv_icmp_ge (tgt := 104) hx hb dX7_turningHeight_81 (by decide) (fun c11 => ?_) (fun c11 => ?_)
    · replace h := gif_t c11 h
      exact kx _ (Option.some.inj h).symm hM hS (lv_sub hl [3] rfl)
    · replace h := gif_f c11 h
      refine lv_lload_n hx hb dX7_turningHeight_84 rfl (lv_at hl 3 rfl) ?_
      refine lv_aload_n hx hb dX7_turningHeight_85 rfl (lv_at hl 0 rfl) ?_
      refine gg_0_5 hx hb hown E hM hk_0 kw_463 dX7_turningHeight_86 ?_
      refine lv_iload_n hx hb dX7_turningHeight_89 rfl (lv_at hl 1 rfl) ?_
      refine lv_iload hx hb dX7_turningHeight_90 (lv_at hl 4 rfl) ?_
      obtain ⟨q12, hq12, h⟩ := gbind_e h
      refine g_callV (As := [.int x1, .int x5]) (rest := [.long x3]) hx hb (hml.trans hl.1.symm) hown E hM hS hy_X3_setupRise kw_1039 (c_X3_setupRise hq12) hk_34 dd_34 rfl rfl rfl (Nat.le_of_ble_eq_true rfl) ⟨Nat.le_of_ble_eq_true rfl, Nat.le_of_ble_eq_true rfl⟩ ⟨Nat.le_of_ble_eq_true rfl, Nat.le_of_ble_eq_true rfl⟩ dX7_turningHeight_92 (fun H locs hM hS => ?_)
      refine lv_i2l (v := q12.toInt64) hx hb dX7_turningHeight_95 rfl ?_
      refine lv_ladd hx hb dX7_turningHeight_96 ?_
      refine lv_lstore_n (lv' := [(3, .long (x3 + q12.toInt64)), (0, .ref (ad 0)), (1, .int x1), (2, .int x2), (5, .int x5)]) hx hb dX7_turningHeight_97 rfl hl (by decide) rfl (fun ls hl => ?_)
      refine lv_iinc (v := (x5 + (1 : Int32))) (lv' := [(5, .int (x5 + (1 : Int32))), (3, .long (x3 + q12.toInt64)), (0, .ref (ad 0)), (1, .int x1), (2, .int x2)]) hx hb dX7_turningHeight_98 hl (k := 4) rfl rfl (by decide) rfl (fun ls hl => ?_)
      refine lv_goto (tgt := 71) hx hb dX7_turningHeight_101 (by decide) ?_
      exact kc _ (Option.some.inj h).symm hM hS (lv_sub hl [2, 3, 4, 1, 0] rfl)
set_option maxHeartbeats 4000000 in
theorem wl_X7_turningHeight_71 {p : Program} {l : Launch} {e : Env} {s : State} {m : MethodId} {args : Array Value} {below : List Frame} {meth : Method} {c : Code} {D : va_G} {cy : Nat → ClassId} {ad : Nat → Nat} {base : Nat} {x1 : Int32} {x2 : Int32} {μ : gM} {r : Int64} {RES : (Option Int64) × gM} (F : gF p s m meth c cX7_turningHeight RX7 6 (some .long)) (E : gEnv l D cy ad base s) (kx : ∀ (t : Int64) {H : Heap} {locs : List Loc} {ls : Array Slot}, r = t → gW gFull D cy ad base μ H → va_S (gA base) s.heap H locs → lv_has ls 6 [(3, .long t)] → W p l e ({ frames := 7, cells := 1, slots := 6, locals := 116 } : Room) s m args below meth c H locs 1 6 (vx_MQ below (gQo RES.1 (fun v => some (.long v)) gFull D cy ad base RES.2) (gX (RES.1 = none) gFull D cy ad base RES.2) args s 1 6 (gA base)) (F0 m 104 ls []))  : ∀ (n : Nat) (x3 : Int64) (x5 : Int32), gloop (fun t => b_X7_turningHeight_71 x1 x2 t.1 t.2 μ) n (x3, x5) = some r → ∀ {H : Heap} {locs : List Loc} {ls : Array Slot}, gW gFull D cy ad base μ H → va_S (gA base) s.heap H locs → lv_has ls 6 [(0, .ref (ad 0)), (1, .int x1), (2, .int x2), (3, .long x3), (5, .int x5)] → W p l e ({ frames := 7, cells := 1, slots := 6, locals := 116 } : Room) s m args below meth c H locs 1 6 (vx_MQ below (gQo RES.1 (fun v => some (.long v)) gFull D cy ad base RES.2) (gX (RES.1 = none) gFull D cy ad base RES.2) args s 1 6 (gA base)) (F0 m 71 ls []) := by
  intro n
  induction n with
  | zero =>
    intro x3 x5 h
    exact (gloop_0 h).elim
  | succ n ih =>
    intro x3 x5 h H locs ls hM hS hl
    obtain ⟨o, h0, hc, hq⟩ := gloop_s h
    have h1 : b_X7_turningHeight_71 x1 x2 x3 x5 μ = some o := h0
    exact wb_X7_turningHeight_71 h1 F E (fun t H locs ls ho hM hS hl => ih t.1 t.2 (hc t ho) hM hS hl) (fun t H locs ls ho hM hS hl => kx t (hq _ ho).symm hM hS hl) hM hS hl
def f_X7_turningHeight (p1 : Int32) (p2 : Int32) (μ : gM) : Option ((Option Int64) × gM) :=
  Option.bind (f_X7_needIndex p1 (gi μ 34 2) μ) (fun q1 => Option.elim q1 (some (none, μ)) (fun v2 => Option.bind (f_X3_hasSetup p1 p2 μ) (fun q4 => if ((b2i q4) = 0) then some ((some (-9223372036854775808 : Int64)), μ) else Option.bind (f_X0_carry  μ) (fun q6 => gchk (gIn p1 20) (gchk (gIn (gi q6 40 p1.toNatClampNeg) 16) (if ((gl q6 21 (gi q6 40 p1.toNatClampNeg).toNatClampNeg) = (-9223372036854775808 : Int64)) then some ((some (-9223372036854775808 : Int64)), q6) else Option.bind (gloop (fun t => b_X7_turningHeight_71 p1 p2 t.1 t.2 q6) gFuel ((gl q6 21 (gi q6 40 p1.toNatClampNeg).toNatClampNeg), (0 : Int32))) (fun q13 => some ((some q13), q6))))))))
set_option maxHeartbeats 4000000 in
set_option maxRecDepth 100000 in
theorem c_X7_turningHeight {l : Launch} {D : va_G} {cy : Nat → ClassId} {ad : Nat → Nat} {base : Nat} {p1 : Int32} {p2 : Int32} {μ : gM} {RES : (Option Int64) × gM} (h : f_X7_turningHeight p1 p2 μ = some RES) : vx_Met l yX7_turningHeight [.code yX7_turningHeight cX7_turningHeight 6 (some .long)] ({ frames := 7, cells := 1, slots := 6, locals := 116 } : Room) (va_Pc [.ref (ad 0), .int p1, .int p2] (gB l gFull D cy ad base μ)) (gQo RES.1 (fun v => some (.long v)) gFull D cy ad base RES.2) (gX (RES.1 = none) gFull D cy ad base RES.2) 1 6 (gA base) := by
  refine vx_ofW (cc := cX7_turningHeight) (maxL := 6) (ret := (some .long)) (by decide) rfl ?_
  intro p e s m args below meth c s₁ B hml0 hT hv
  obtain ⟨rfl, E, hM⟩ := hv
  have F : gF p s m meth c cX7_turningHeight RX7 6 (some .long) := gF_of B hml0
  obtain ⟨hx, hb, hml, hown, hlocks, hr⟩ := id F
  have hS : va_S (gA base) s.heap s.heap [] := va_S.rf
  have hl := lv_entry ([.ref (ad 0), .int p1, .int p2]) (n := 6) (Nat.le_of_ble_eq_true rfl)
  rw [lg_entry_eq]
  generalize (lg_sl ([.ref (ad 0), .int p1, .int p2]) ++ List.replicate (6 - (lg_sl ([.ref (ad 0), .int p1, .int p2])).length) Slot.unset).toArray = ls at hl ⊢
  have hl : lv_has ls 6 [(0, .ref (ad 0)), (1, .int p1), (2, .int p2)] := hl
  unfold f_X7_turningHeight at h
  refine lv_iload_n hx hb dX7_turningHeight_0 rfl (lv_at hl 1 rfl) ?_
  refine lv_aload_n hx hb dX7_turningHeight_1 rfl (lv_at hl 0 rfl) ?_
  refine gg_0_5 hx hb hown E hM hk_0 kw_463 dX7_turningHeight_2 ?_
  refine gg_34_2 hx hb hown E hM hk_34 kw_367 dX7_turningHeight_5 ?_
  obtain ⟨q1, hq1, h⟩ := gbind_e h
  refine g_callXS (As := [.int p1, .int (gi μ 34 2)]) (rest := []) hx hb (hml.trans hl.1.symm) hown E hM hS hy_X7_needIndex kw_935 (c_X7_needIndex hq1) rfl rfl (Nat.le_of_ble_eq_true rfl) ⟨Nat.le_of_ble_eq_true rfl, Nat.le_of_ble_eq_true rfl⟩ ⟨Nat.le_of_ble_eq_true rfl, Nat.le_of_ble_eq_true rfl⟩ dX7_turningHeight_8 (fun e3 q9 ce H locs hM hS hce hcv hcl => ?_) (fun v2 e3 H locs hM hS => ?_)
  · replace h := gel_n e3 h
    obtain rfl := Option.some.inj h
    exact g_outX hT hlocks rfl hM hS hce hcv hcl (Nat.le_of_ble_eq_true rfl) (Nat.le_of_ble_eq_true rfl)
  · replace h := gel_s e3 h
    refine lv_aload_n hx hb dX7_turningHeight_11 rfl (lv_at hl 0 rfl) ?_
    refine gg_0_5 hx hb hown E hM hk_0 kw_463 dX7_turningHeight_12 ?_
    refine lv_iload_n hx hb dX7_turningHeight_15 rfl (lv_at hl 1 rfl) ?_
    refine lv_iload_n hx hb dX7_turningHeight_16 rfl (lv_at hl 2 rfl) ?_
    obtain ⟨q4, hq4, h⟩ := gbind_e h
    refine g_callV (As := [.int p1, .int p2]) (rest := []) hx hb (hml.trans hl.1.symm) hown E hM hS hy_X3_hasSetup kw_845 (c_X3_hasSetup hq4) hk_34 dd_34 rfl rfl rfl (Nat.le_of_ble_eq_true rfl) ⟨Nat.le_of_ble_eq_true rfl, Nat.le_of_ble_eq_true rfl⟩ ⟨Nat.le_of_ble_eq_true rfl, Nat.le_of_ble_eq_true rfl⟩ dX7_turningHeight_17 (fun H locs hM hS => ?_)
    refine lv_if_ne (tgt := 27) hx hb dX7_turningHeight_20 (by decide) (fun c5 => ?_) (fun c5 => ?_)
    · replace h := gif_f c5 h
      refine lv_aload_n hx hb dX7_turningHeight_27 rfl (lv_at hl 0 rfl) ?_
      refine gg_0_3 hx hb hown E hM hk_0 kw_461 dX7_turningHeight_28 ?_
      refine lv_aload_n hx hb dX7_turningHeight_31 rfl (lv_at hl 0 rfl) ?_
      refine gg_0_5 hx hb hown E hM hk_0 kw_463 dX7_turningHeight_32 ?_
      obtain ⟨q6, hq6, h⟩ := gbind_e h
      refine g_callV (As := [.ref (ad 34)]) (rest := []) hx hb (hml.trans hl.1.symm) hown E hM hS hy_X0_carry kw_753 (c_X0_carry hq6) hk_20 dd_20 rfl rfl rfl (Nat.le_of_ble_eq_true rfl) ⟨Nat.le_of_ble_eq_true rfl, Nat.le_of_ble_eq_true rfl⟩ ⟨Nat.le_of_ble_eq_true rfl, Nat.le_of_ble_eq_true rfl⟩ dX7_turningHeight_35 (fun H locs hM hS => ?_)
      refine lv_aload_n hx hb dX7_turningHeight_38 rfl (lv_at hl 0 rfl) ?_
      refine gg_0_3 hx hb hown E hM hk_0 kw_461 dX7_turningHeight_39 ?_
      refine gg_20_0 hx hb hown E hM hk_20 kw_281 dX7_turningHeight_42 ?_
      refine lv_aload_n hx hb dX7_turningHeight_45 rfl (lv_at hl 0 rfl) ?_
      refine gg_0_5 hx hb hown E hM hk_0 kw_463 dX7_turningHeight_46 ?_
      refine gg_34_10 hx hb hown E hM hk_34 kw_400 dX7_turningHeight_49 ?_
      refine lv_iload_n hx hb dX7_turningHeight_52 rfl (lv_at hl 1 rfl) ?_
      obtain ⟨c7, h⟩ := gchk_e h
      refine g_iald hx hb E hM hk_40 dd_40 c7 dX7_turningHeight_53 ?_
      obtain ⟨c8, h⟩ := gchk_e h
      refine g_lald hx hb E hM hk_21 dd_21 c8 dX7_turningHeight_54 ?_
      refine lv_lstore_n (lv' := [(3, .long (gl q6 21 (gi q6 40 p1.toNatClampNeg).toNatClampNeg)), (0, .ref (ad 0)), (1, .int p1), (2, .int p2)]) hx hb dX7_turningHeight_55 rfl hl (by decide) rfl (fun ls hl => ?_)
      refine lv_lload_n hx hb dX7_turningHeight_56 rfl (lv_at hl 0 rfl) ?_
      refine lv_ldc2 hx hb hown (v := (-9223372036854775808 : Int64)) (E.kw kw_765) dX7_turningHeight_57 ?_
      refine W.lcmp hx hb dX7_turningHeight_60 ?_
      refine lv_if_ne (tgt := 68) hx hb dX7_turningHeight_61 (by decide) (fun c9 => ?_) (fun c9 => ?_)
      · replace c9 := fun w => c9 ((lg_cmp_eq _ _).mpr w)
        replace h := gif_f c9 h
        refine lv_iconst (v := (0 : Int32)) hx hb dX7_turningHeight_68 (by decide) ?_
        refine lv_istore (lv' := [(5, .int (0 : Int32)), (3, .long (gl q6 21 (gi q6 40 p1.toNatClampNeg).toNatClampNeg)), (0, .ref (ad 0)), (1, .int p1), (2, .int p2)]) hx hb dX7_turningHeight_69 hl (by decide) rfl (fun ls hl => ?_)
        obtain ⟨z14, h1, h⟩ := gbind_e h
        refine wl_X7_turningHeight_71 F E (r := z14) (fun q13 H locs ls e1 hM hS hl => ?_) gFuel (gl q6 21 (gi q6 40 p1.toNatClampNeg).toNatClampNeg) (0 : Int32) h1 hM hS (lv_sub hl [2, 3, 4, 1, 0] rfl)
        replace e1 : z14 = q13 := e1
        rw [e1] at h
        refine lv_lload_n hx hb dX7_turningHeight_104 rfl (lv_at hl 0 rfl) ?_
        obtain rfl := Option.some.inj h
        exact g_retX rfl (Nat.le_of_ble_eq_true rfl) (Nat.le_of_ble_eq_true rfl) (g_lret hx hb hr hlocks hM hS dX7_turningHeight_105)
      · replace c9 := (lg_cmp_eq _ _).mp c9
        replace h := gif_t c9 h
        refine lv_ldc2 hx hb hown (v := (-9223372036854775808 : Int64)) (E.kw kw_765) dX7_turningHeight_64 ?_
        obtain rfl := Option.some.inj h
        exact g_retX rfl (Nat.le_of_ble_eq_true rfl) (Nat.le_of_ble_eq_true rfl) (g_lret hx hb hr hlocks hM hS dX7_turningHeight_67)
    · replace h := gif_t c5 h
      refine lv_ldc2 hx hb hown (v := (-9223372036854775808 : Int64)) (E.kw kw_765) dX7_turningHeight_23 ?_
      obtain rfl := Option.some.inj h
      exact g_retX rfl (Nat.le_of_ble_eq_true rfl) (Nat.le_of_ble_eq_true rfl) (g_lret hx hb hr hlocks hM hS dX7_turningHeight_26)
def f_X7_pairOf (p1 : Int32) (μ : gM) : Option (Option Int32) :=
  Option.bind (f_X7_needIndex p1 (gi μ 34 2) μ) (fun q1 => Option.elim q1 (some none) (fun v2 => Option.bind (f_X3_findPair p1 μ) (fun q4 => some (some q4))))
set_option maxHeartbeats 4000000 in
set_option maxRecDepth 100000 in
theorem c_X7_pairOf {l : Launch} {D : va_G} {cy : Nat → ClassId} {ad : Nat → Nat} {base : Nat} {p1 : Int32} {μ : gM} {RES : Option Int32} (h : f_X7_pairOf p1 μ = some RES) : vx_Met l yX7_pairOf [.code yX7_pairOf cX7_pairOf 2 (some .int)] ({ frames := 7, cells := 1, slots := 6, locals := 103 } : Room) (va_Pc [.ref (ad 0), .int p1] (gB l gFull D cy ad base μ)) (gQo RES (fun v => some (.int v)) gFull D cy ad base μ) (gX (RES = none) gFull D cy ad base μ) 1 6 (gA base) := by
  refine vx_ofW (cc := cX7_pairOf) (maxL := 2) (ret := (some .int)) (by decide) rfl ?_
  intro p e s m args below meth c s₁ B hml0 hT hv
  obtain ⟨rfl, E, hM⟩ := hv
  have F : gF p s m meth c cX7_pairOf RX7 2 (some .int) := gF_of B hml0
  obtain ⟨hx, hb, hml, hown, hlocks, hr⟩ := id F
  have hS : va_S (gA base) s.heap s.heap [] := va_S.rf
  have hl := lv_entry ([.ref (ad 0), .int p1]) (n := 2) (Nat.le_of_ble_eq_true rfl)
  rw [lg_entry_eq]
  generalize (lg_sl ([.ref (ad 0), .int p1]) ++ List.replicate (2 - (lg_sl ([.ref (ad 0), .int p1])).length) Slot.unset).toArray = ls at hl ⊢
  have hl : lv_has ls 2 [(0, .ref (ad 0)), (1, .int p1)] := hl
  unfold f_X7_pairOf at h
  refine lv_iload_n hx hb dX7_pairOf_0 rfl (lv_at hl 1 rfl) ?_
  refine lv_aload_n hx hb dX7_pairOf_1 rfl (lv_at hl 0 rfl) ?_
  refine gg_0_5 hx hb hown E hM hk_0 kw_463 dX7_pairOf_2 ?_
  refine gg_34_2 hx hb hown E hM hk_34 kw_367 dX7_pairOf_5 ?_
  obtain ⟨q1, hq1, h⟩ := gbind_e h
  refine g_callXS (As := [.int p1, .int (gi μ 34 2)]) (rest := []) hx hb (hml.trans hl.1.symm) hown E hM hS hy_X7_needIndex kw_935 (c_X7_needIndex hq1) rfl rfl (Nat.le_of_ble_eq_true rfl) ⟨Nat.le_of_ble_eq_true rfl, Nat.le_of_ble_eq_true rfl⟩ ⟨Nat.le_of_ble_eq_true rfl, Nat.le_of_ble_eq_true rfl⟩ dX7_pairOf_8 (fun e3 q9 ce H locs hM hS hce hcv hcl => ?_) (fun v2 e3 H locs hM hS => ?_)
  · replace h := gel_n e3 h
    obtain rfl := Option.some.inj h
    exact g_outX hT hlocks rfl hM hS hce hcv hcl (Nat.le_of_ble_eq_true rfl) (Nat.le_of_ble_eq_true rfl)
  · replace h := gel_s e3 h
    refine lv_aload_n hx hb dX7_pairOf_11 rfl (lv_at hl 0 rfl) ?_
    refine gg_0_5 hx hb hown E hM hk_0 kw_463 dX7_pairOf_12 ?_
    refine lv_iload_n hx hb dX7_pairOf_15 rfl (lv_at hl 1 rfl) ?_
    obtain ⟨q4, hq4, h⟩ := gbind_e h
    refine g_callV (As := [.int p1]) (rest := []) hx hb (hml.trans hl.1.symm) hown E hM hS hy_X3_findPair kw_1092 (c_X3_findPair hq4) hk_34 dd_34 rfl rfl rfl (Nat.le_of_ble_eq_true rfl) ⟨Nat.le_of_ble_eq_true rfl, Nat.le_of_ble_eq_true rfl⟩ ⟨Nat.le_of_ble_eq_true rfl, Nat.le_of_ble_eq_true rfl⟩ dX7_pairOf_16 (fun H locs hM hS => ?_)
    obtain rfl := Option.some.inj h
    exact g_retX rfl (Nat.le_of_ble_eq_true rfl) (Nat.le_of_ble_eq_true rfl) (g_iret hx hb hr hlocks hM hS dX7_pairOf_19)
def f_X7_discrepancy (p1 : Int32) (μ : gM) : Option (Option Int32) :=
  Option.bind (f_X7_needIndex p1 (gi μ 34 2) μ) (fun q1 => Option.elim q1 (some none) (fun v2 => Option.bind (f_X3_findPair p1 μ) (fun q4 => if (q4 = (-1 : Int32)) then some (some (-2147483648 : Int32)) else Option.bind (f_X3_lineRise p1 μ) (fun q6 => gchk (gIn p1 20) (Option.bind (f_X3_riseFrom q4 (gi μ 40 p1.toNatClampNeg) μ) (fun q8 => some (some (q6 - q8))))))))
set_option maxHeartbeats 4000000 in
set_option maxRecDepth 100000 in
theorem c_X7_discrepancy {l : Launch} {D : va_G} {cy : Nat → ClassId} {ad : Nat → Nat} {base : Nat} {p1 : Int32} {μ : gM} {RES : Option Int32} (h : f_X7_discrepancy p1 μ = some RES) : vx_Met l yX7_discrepancy [.code yX7_discrepancy cX7_discrepancy 3 (some .int)] ({ frames := 7, cells := 1, slots := 6, locals := 103 } : Room) (va_Pc [.ref (ad 0), .int p1] (gB l gFull D cy ad base μ)) (gQo RES (fun v => some (.int v)) gFull D cy ad base μ) (gX (RES = none) gFull D cy ad base μ) 1 6 (gA base) := by
  refine vx_ofW (cc := cX7_discrepancy) (maxL := 3) (ret := (some .int)) (by decide) rfl ?_
  intro p e s m args below meth c s₁ B hml0 hT hv
  obtain ⟨rfl, E, hM⟩ := hv
  have F : gF p s m meth c cX7_discrepancy RX7 3 (some .int) := gF_of B hml0
  obtain ⟨hx, hb, hml, hown, hlocks, hr⟩ := id F
  have hS : va_S (gA base) s.heap s.heap [] := va_S.rf
  have hl := lv_entry ([.ref (ad 0), .int p1]) (n := 3) (Nat.le_of_ble_eq_true rfl)
  rw [lg_entry_eq]
  generalize (lg_sl ([.ref (ad 0), .int p1]) ++ List.replicate (3 - (lg_sl ([.ref (ad 0), .int p1])).length) Slot.unset).toArray = ls at hl ⊢
  have hl : lv_has ls 3 [(0, .ref (ad 0)), (1, .int p1)] := hl
  unfold f_X7_discrepancy at h
  refine lv_iload_n hx hb dX7_discrepancy_0 rfl (lv_at hl 1 rfl) ?_
  refine lv_aload_n hx hb dX7_discrepancy_1 rfl (lv_at hl 0 rfl) ?_
  refine gg_0_5 hx hb hown E hM hk_0 kw_463 dX7_discrepancy_2 ?_
  refine gg_34_2 hx hb hown E hM hk_34 kw_367 dX7_discrepancy_5 ?_
  obtain ⟨q1, hq1, h⟩ := gbind_e h
  refine g_callXS (As := [.int p1, .int (gi μ 34 2)]) (rest := []) hx hb (hml.trans hl.1.symm) hown E hM hS hy_X7_needIndex kw_935 (c_X7_needIndex hq1) rfl rfl (Nat.le_of_ble_eq_true rfl) ⟨Nat.le_of_ble_eq_true rfl, Nat.le_of_ble_eq_true rfl⟩ ⟨Nat.le_of_ble_eq_true rfl, Nat.le_of_ble_eq_true rfl⟩ dX7_discrepancy_8 (fun e3 q9 ce H locs hM hS hce hcv hcl => ?_) (fun v2 e3 H locs hM hS => ?_)
  · replace h := gel_n e3 h
    obtain rfl := Option.some.inj h
    exact g_outX hT hlocks rfl hM hS hce hcv hcl (Nat.le_of_ble_eq_true rfl) (Nat.le_of_ble_eq_true rfl)
  · replace h := gel_s e3 h
    refine lv_aload_n hx hb dX7_discrepancy_11 rfl (lv_at hl 0 rfl) ?_
    refine gg_0_5 hx hb hown E hM hk_0 kw_463 dX7_discrepancy_12 ?_
    refine lv_iload_n hx hb dX7_discrepancy_15 rfl (lv_at hl 1 rfl) ?_
    obtain ⟨q4, hq4, h⟩ := gbind_e h
    refine g_callV (As := [.int p1]) (rest := []) hx hb (hml.trans hl.1.symm) hown E hM hS hy_X3_findPair kw_1092 (c_X3_findPair hq4) hk_34 dd_34 rfl rfl rfl (Nat.le_of_ble_eq_true rfl) ⟨Nat.le_of_ble_eq_true rfl, Nat.le_of_ble_eq_true rfl⟩ ⟨Nat.le_of_ble_eq_true rfl, Nat.le_of_ble_eq_true rfl⟩ dX7_discrepancy_16 (fun H locs hM hS => ?_)
    refine lv_istore_n (lv' := [(2, .int q4), (0, .ref (ad 0)), (1, .int p1)]) hx hb dX7_discrepancy_19 rfl hl (by decide) rfl (fun ls hl => ?_)
    refine lv_iload_n hx hb dX7_discrepancy_20 rfl (lv_at hl 0 rfl) ?_
    refine lv_iconst (v := (-1 : Int32)) hx hb dX7_discrepancy_21 (by decide) ?_
    refine lv_icmp_ne (tgt := 28) hx hb dX7_discrepancy_22 (by decide) (fun c5 => ?_) (fun c5 => ?_)
    · replace h := gif_f c5 h
      refine lv_aload_n hx hb dX7_discrepancy_28 rfl (lv_at hl 1 rfl) ?_
      refine gg_0_5 hx hb hown E hM hk_0 kw_463 dX7_discrepancy_29 ?_
      refine lv_iload_n hx hb dX7_discrepancy_32 rfl (lv_at hl 2 rfl) ?_
      obtain ⟨q6, hq6, h⟩ := gbind_e h
      refine g_callV (As := [.int p1]) (rest := []) hx hb (hml.trans hl.1.symm) hown E hM hS hy_X3_lineRise kw_1047 (c_X3_lineRise hq6) hk_34 dd_34 rfl rfl rfl (Nat.le_of_ble_eq_true rfl) ⟨Nat.le_of_ble_eq_true rfl, Nat.le_of_ble_eq_true rfl⟩ ⟨Nat.le_of_ble_eq_true rfl, Nat.le_of_ble_eq_true rfl⟩ dX7_discrepancy_33 (fun H locs hM hS => ?_)
      refine lv_aload_n hx hb dX7_discrepancy_36 rfl (lv_at hl 1 rfl) ?_
      refine gg_0_5 hx hb hown E hM hk_0 kw_463 dX7_discrepancy_37 ?_
      refine lv_iload_n hx hb dX7_discrepancy_40 rfl (lv_at hl 0 rfl) ?_
      refine lv_aload_n hx hb dX7_discrepancy_41 rfl (lv_at hl 1 rfl) ?_
      refine gg_0_5 hx hb hown E hM hk_0 kw_463 dX7_discrepancy_42 ?_
      refine gg_34_10 hx hb hown E hM hk_34 kw_400 dX7_discrepancy_45 ?_
      refine lv_iload_n hx hb dX7_discrepancy_48 rfl (lv_at hl 2 rfl) ?_
      obtain ⟨c7, h⟩ := gchk_e h
      refine g_iald hx hb E hM hk_40 dd_40 c7 dX7_discrepancy_49 ?_
      obtain ⟨q8, hq8, h⟩ := gbind_e h
      refine g_callV (As := [.int q4, .int (gi μ 40 p1.toNatClampNeg)]) (rest := [.int q6]) hx hb (hml.trans hl.1.symm) hown E hM hS hy_X3_riseFrom kw_1103 (c_X3_riseFrom hq8) hk_34 dd_34 rfl rfl rfl (Nat.le_of_ble_eq_true rfl) ⟨Nat.le_of_ble_eq_true rfl, Nat.le_of_ble_eq_true rfl⟩ ⟨Nat.le_of_ble_eq_true rfl, Nat.le_of_ble_eq_true rfl⟩ dX7_discrepancy_50 (fun H locs hM hS => ?_)
      refine lv_isub hx hb dX7_discrepancy_53 ?_
      obtain rfl := Option.some.inj h
      exact g_retX rfl (Nat.le_of_ble_eq_true rfl) (Nat.le_of_ble_eq_true rfl) (g_iret hx hb hr hlocks hM hS dX7_discrepancy_54)
    · replace h := gif_t c5 h
      refine lv_ldc hx hb hown (v := (-2147483648 : Int32)) (E.kw kw_868) dX7_discrepancy_25 ?_
      obtain rfl := Option.some.inj h
      exact g_retX rfl (Nat.le_of_ble_eq_true rfl) (Nat.le_of_ble_eq_true rfl) (g_iret hx hb hr hlocks hM hS dX7_discrepancy_27)
def b_X7_linesAt_15 (x1 : Int32) (x2 : Int32) (x3 : Int32) (μ : gM) : Option ((Int32 × Int32) ⊕ (Int32)) :=
  if ((gi μ 34 2) ≤ x3) then some (.inr x2) else Option.bind (f_X3_across (gi μ 34 4) x3 x1 μ) (fun q5 => if (q5 = (-1 : Int32)) then some (.inl (x2, (x3 + (1 : Int32)))) else some (.inl ((x2 ||| ((1 : Int32) <<< (x3 &&& 31))), (x3 + (1 : Int32)))))
set_option maxHeartbeats 4000000 in
set_option maxRecDepth 100000 in
theorem wb_X7_linesAt_15 {p : Program} {l : Launch} {e : Env} {s : State} {m : MethodId} {args : Array Value} {below : List Frame} {meth : Method} {c : Code} {D : va_G} {cy : Nat → ClassId} {ad : Nat → Nat} {base : Nat} {x1 : Int32} {x2 : Int32} {x3 : Int32} {μ : gM} {o : (Int32 × Int32) ⊕ (Int32)} {RES : Option Int32} (h : b_X7_linesAt_15 x1 x2 x3 μ = some o) (F : gF p s m meth c cX7_linesAt RX7 4 (some .int)) (E : gEnv l D cy ad base s) (kc : ∀ (t : Int32 × Int32) {H : Heap} {locs : List Loc} {ls : Array Slot}, o = .inl t → gW gFull D cy ad base μ H → va_S (gA base) s.heap H locs → lv_has ls 4 [(0, .ref (ad 0)), (1, .int x1), (2, .int t.1), (3, .int t.2)] → W p l e ({ frames := 7, cells := 1, slots := 6, locals := 103 } : Room) s m args below meth c H locs 1 6 (vx_MQ below (gQo RES (fun v => some (.int v)) gFull D cy ad base μ) (gX (RES = none) gFull D cy ad base μ) args s 1 6 (gA base)) (F0 m 15 ls [])) (kx : ∀ (t : Int32) {H : Heap} {locs : List Loc} {ls : Array Slot}, o = .inr t → gW gFull D cy ad base μ H → va_S (gA base) s.heap H locs → lv_has ls 4 [(2, .int t)] → W p l e ({ frames := 7, cells := 1, slots := 6, locals := 103 } : Room) s m args below meth c H locs 1 6 (vx_MQ below (gQo RES (fun v => some (.int v)) gFull D cy ad base μ) (gX (RES = none) gFull D cy ad base μ) args s 1 6 (gA base)) (F0 m 58 ls []))  {H : Heap} {locs : List Loc} {ls : Array Slot} (hM : gW gFull D cy ad base μ H) (hS : va_S (gA base) s.heap H locs) (hl : lv_has ls 4 [(0, .ref (ad 0)), (1, .int x1), (2, .int x2), (3, .int x3)]) : W p l e ({ frames := 7, cells := 1, slots := 6, locals := 103 } : Room) s m args below meth c H locs 1 6 (vx_MQ below (gQo RES (fun v => some (.int v)) gFull D cy ad base μ) (gX (RES = none) gFull D cy ad base μ) args s 1 6 (gA base)) (F0 m 15 ls []) := by
  obtain ⟨hx, hb, hml, hown, hlocks, hr⟩ := id F
  unfold b_X7_linesAt_15 at h
  refine lv_iload_n hx hb dX7_linesAt_15 rfl (lv_at hl 3 rfl) ?_
  refine lv_aload_n hx hb dX7_linesAt_16 rfl (lv_at hl 0 rfl) ?_
  refine gg_0_5 hx hb hown E hM hk_0 kw_463 dX7_linesAt_17 ?_
  refine gg_34_2 hx hb hown E hM hk_34 kw_367 dX7_linesAt_20 ?_
  refine lv_icmp_ge (tgt := 58) hx hb dX7_linesAt_23 (by decide) (fun c4 => ?_) (fun c4 => ?_)
  · replace h := gif_t c4 h
    exact kx _ (Option.some.inj h).symm hM hS (lv_sub hl [2] rfl)
  · replace h := gif_f c4 h
    refine lv_aload_n hx hb dX7_linesAt_26 rfl (lv_at hl 0 rfl) ?_
    refine gg_0_5 hx hb hown E hM hk_0 kw_463 dX7_linesAt_27 ?_
    refine lv_aload_n hx hb dX7_linesAt_30 rfl (lv_at hl 0 rfl) ?_
    refine gg_0_5 hx hb hown E hM hk_0 kw_463 dX7_linesAt_31 ?_
    refine gg_34_4 hx hb hown E hM hk_34 kw_376 dX7_linesAt_34 ?_
    refine lv_iload_n hx hb dX7_linesAt_37 rfl (lv_at hl 3 rfl) ?_
    refine lv_iload_n hx hb dX7_linesAt_38 rfl (lv_at hl 1 rfl) ?_
    obtain ⟨q5, hq5, h⟩ := gbind_e h
    refine g_callV (As := [.int (gi μ 34 4), .int x3, .int x1]) (rest := []) hx hb (hml.trans hl.1.symm) hown E hM hS hy_X3_across kw_1111 (c_X3_across hq5) hk_34 dd_34 rfl rfl rfl (Nat.le_of_ble_eq_true rfl) ⟨Nat.le_of_ble_eq_true rfl, Nat.le_of_ble_eq_true rfl⟩ ⟨Nat.le_of_ble_eq_true rfl, Nat.le_of_ble_eq_true rfl⟩ dX7_linesAt_39 (fun H locs hM hS => ?_)
    refine lv_iconst (v := (-1 : Int32)) hx hb dX7_linesAt_42 (by decide) ?_
    refine lv_icmp_eq (tgt := 52) hx hb dX7_linesAt_43 (by decide) (fun c6 => ?_) (fun c6 => ?_)
    · replace h := gif_t c6 h
      refine lv_iinc (v := (x3 + (1 : Int32))) (lv' := [(3, .int (x3 + (1 : Int32))), (0, .ref (ad 0)), (1, .int x1), (2, .int x2)]) hx hb dX7_linesAt_52 hl (k := 3) rfl rfl (by decide) rfl (fun ls hl => ?_)
      refine lv_goto (tgt := 15) hx hb dX7_linesAt_55 (by decide) ?_
      exact kc _ (Option.some.inj h).symm hM hS (lv_sub hl [1, 2, 3, 0] rfl)
    · replace h := gif_f c6 h
      refine lv_iload_n hx hb dX7_linesAt_46 rfl (lv_at hl 2 rfl) ?_
      refine lv_iconst (v := (1 : Int32)) hx hb dX7_linesAt_47 (by decide) ?_
      refine lv_iload_n hx hb dX7_linesAt_48 rfl (lv_at hl 3 rfl) ?_
      refine lv_ishl hx hb dX7_linesAt_49 ?_
      refine lv_ior hx hb dX7_linesAt_50 ?_
      refine lv_istore_n (lv' := [(2, .int (x2 ||| ((1 : Int32) <<< (x3 &&& 31)))), (0, .ref (ad 0)), (1, .int x1), (3, .int x3)]) hx hb dX7_linesAt_51 rfl hl (by decide) rfl (fun ls hl => ?_)
      refine lv_iinc (v := (x3 + (1 : Int32))) (lv' := [(3, .int (x3 + (1 : Int32))), (2, .int (x2 ||| ((1 : Int32) <<< (x3 &&& 31)))), (0, .ref (ad 0)), (1, .int x1)]) hx hb dX7_linesAt_52 hl (k := 3) rfl rfl (by decide) rfl (fun ls hl => ?_)
      refine lv_goto (tgt := 15) hx hb dX7_linesAt_55 (by decide) ?_
      exact kc _ (Option.some.inj h).symm hM hS (lv_sub hl [2, 3, 1, 0] rfl)
set_option maxHeartbeats 4000000 in
theorem wl_X7_linesAt_15 {p : Program} {l : Launch} {e : Env} {s : State} {m : MethodId} {args : Array Value} {below : List Frame} {meth : Method} {c : Code} {D : va_G} {cy : Nat → ClassId} {ad : Nat → Nat} {base : Nat} {x1 : Int32} {μ : gM} {r : Int32} {RES : Option Int32} (F : gF p s m meth c cX7_linesAt RX7 4 (some .int)) (E : gEnv l D cy ad base s) (kx : ∀ (t : Int32) {H : Heap} {locs : List Loc} {ls : Array Slot}, r = t → gW gFull D cy ad base μ H → va_S (gA base) s.heap H locs → lv_has ls 4 [(2, .int t)] → W p l e ({ frames := 7, cells := 1, slots := 6, locals := 103 } : Room) s m args below meth c H locs 1 6 (vx_MQ below (gQo RES (fun v => some (.int v)) gFull D cy ad base μ) (gX (RES = none) gFull D cy ad base μ) args s 1 6 (gA base)) (F0 m 58 ls []))  : ∀ (n : Nat) (x2 : Int32) (x3 : Int32), gloop (fun t => b_X7_linesAt_15 x1 t.1 t.2 μ) n (x2, x3) = some r → ∀ {H : Heap} {locs : List Loc} {ls : Array Slot}, gW gFull D cy ad base μ H → va_S (gA base) s.heap H locs → lv_has ls 4 [(0, .ref (ad 0)), (1, .int x1), (2, .int x2), (3, .int x3)] → W p l e ({ frames := 7, cells := 1, slots := 6, locals := 103 } : Room) s m args below meth c H locs 1 6 (vx_MQ below (gQo RES (fun v => some (.int v)) gFull D cy ad base μ) (gX (RES = none) gFull D cy ad base μ) args s 1 6 (gA base)) (F0 m 15 ls []) := by
  intro n
  induction n with
  | zero =>
    intro x2 x3 h
    exact (gloop_0 h).elim
  | succ n ih =>
    intro x2 x3 h H locs ls hM hS hl
    obtain ⟨o, h0, hc, hq⟩ := gloop_s h
    have h1 : b_X7_linesAt_15 x1 x2 x3 μ = some o := h0
    exact wb_X7_linesAt_15 h1 F E (fun t H locs ls ho hM hS hl => ih t.1 t.2 (hc t ho) hM hS hl) (fun t H locs ls ho hM hS hl => kx t (hq _ ho).symm hM hS hl) hM hS hl
def f_X7_linesAt (p1 : Int32) (μ : gM) : Option (Option Int32) :=
  Option.bind (f_X7_needIndex p1 (gi μ 34 1) μ) (fun q1 => Option.elim q1 (some none) (fun v2 => Option.bind (gloop (fun t => b_X7_linesAt_15 p1 t.1 t.2 μ) gFuel ((0 : Int32), (0 : Int32))) (fun q7 => some (some q7))))
set_option maxHeartbeats 4000000 in
set_option maxRecDepth 100000 in
theorem c_X7_linesAt {l : Launch} {D : va_G} {cy : Nat → ClassId} {ad : Nat → Nat} {base : Nat} {p1 : Int32} {μ : gM} {RES : Option Int32} (h : f_X7_linesAt p1 μ = some RES) : vx_Met l yX7_linesAt [.code yX7_linesAt cX7_linesAt 4 (some .int)] ({ frames := 7, cells := 1, slots := 6, locals := 103 } : Room) (va_Pc [.ref (ad 0), .int p1] (gB l gFull D cy ad base μ)) (gQo RES (fun v => some (.int v)) gFull D cy ad base μ) (gX (RES = none) gFull D cy ad base μ) 1 6 (gA base) := by
  refine vx_ofW (cc := cX7_linesAt) (maxL := 4) (ret := (some .int)) (by decide) rfl ?_
  intro p e s m args below meth c s₁ B hml0 hT hv
  obtain ⟨rfl, E, hM⟩ := hv
  have F : gF p s m meth c cX7_linesAt RX7 4 (some .int) := gF_of B hml0
  obtain ⟨hx, hb, hml, hown, hlocks, hr⟩ := id F
  have hS : va_S (gA base) s.heap s.heap [] := va_S.rf
  have hl := lv_entry ([.ref (ad 0), .int p1]) (n := 4) (Nat.le_of_ble_eq_true rfl)
  rw [lg_entry_eq]
  generalize (lg_sl ([.ref (ad 0), .int p1]) ++ List.replicate (4 - (lg_sl ([.ref (ad 0), .int p1])).length) Slot.unset).toArray = ls at hl ⊢
  have hl : lv_has ls 4 [(0, .ref (ad 0)), (1, .int p1)] := hl
  unfold f_X7_linesAt at h
  refine lv_iload_n hx hb dX7_linesAt_0 rfl (lv_at hl 1 rfl) ?_
  refine lv_aload_n hx hb dX7_linesAt_1 rfl (lv_at hl 0 rfl) ?_
  refine gg_0_5 hx hb hown E hM hk_0 kw_463 dX7_linesAt_2 ?_
  refine gg_34_1 hx hb hown E hM hk_34 kw_360 dX7_linesAt_5 ?_
  obtain ⟨q1, hq1, h⟩ := gbind_e h
  refine g_callXS (As := [.int p1, .int (gi μ 34 1)]) (rest := []) hx hb (hml.trans hl.1.symm) hown E hM hS hy_X7_needIndex kw_935 (c_X7_needIndex hq1) rfl rfl (Nat.le_of_ble_eq_true rfl) ⟨Nat.le_of_ble_eq_true rfl, Nat.le_of_ble_eq_true rfl⟩ ⟨Nat.le_of_ble_eq_true rfl, Nat.le_of_ble_eq_true rfl⟩ dX7_linesAt_8 (fun e3 q9 ce H locs hM hS hce hcv hcl => ?_) (fun v2 e3 H locs hM hS => ?_)
  · replace h := gel_n e3 h
    obtain rfl := Option.some.inj h
    exact g_outX hT hlocks rfl hM hS hce hcv hcl (Nat.le_of_ble_eq_true rfl) (Nat.le_of_ble_eq_true rfl)
  · replace h := gel_s e3 h
    refine lv_iconst (v := (0 : Int32)) hx hb dX7_linesAt_11 (by decide) ?_
    refine lv_istore_n (lv' := [(2, .int (0 : Int32)), (0, .ref (ad 0)), (1, .int p1)]) hx hb dX7_linesAt_12 rfl hl (by decide) rfl (fun ls hl => ?_)
    refine lv_iconst (v := (0 : Int32)) hx hb dX7_linesAt_13 (by decide) ?_
    refine lv_istore_n (lv' := [(3, .int (0 : Int32)), (2, .int (0 : Int32)), (0, .ref (ad 0)), (1, .int p1)]) hx hb dX7_linesAt_14 rfl hl (by decide) rfl (fun ls hl => ?_)
    obtain ⟨z8, h1, h⟩ := gbind_e h
    refine wl_X7_linesAt_15 F E (r := z8) (fun q7 H locs ls e1 hM hS hl => ?_) gFuel (0 : Int32) (0 : Int32) h1 hM hS (lv_sub hl [2, 3, 1, 0] rfl)
    replace e1 : z8 = q7 := e1
    rw [e1] at h
    refine lv_iload_n hx hb dX7_linesAt_58 rfl (lv_at hl 0 rfl) ?_
    obtain rfl := Option.some.inj h
    exact g_retX rfl (Nat.le_of_ble_eq_true rfl) (Nat.le_of_ble_eq_true rfl) (g_iret hx hb hr hlocks hM hS dX7_linesAt_59)
def f_X7_rootOf (p1 : Int32) (μ : gM) : Option ((Option Int32) × gM) :=
  Option.bind (f_X7_needIndex p1 (gi μ 34 1) μ) (fun q1 => Option.elim q1 (some (none, μ)) (fun v2 => Option.bind (f_X5_grow (gi μ 34 4) μ) (fun q4 => gchk (gIn p1 16) (some ((some (gi q4 8 p1.toNatClampNeg)), q4)))))
set_option maxHeartbeats 4000000 in
set_option maxRecDepth 100000 in
theorem c_X7_rootOf {l : Launch} {D : va_G} {cy : Nat → ClassId} {ad : Nat → Nat} {base : Nat} {p1 : Int32} {μ : gM} {RES : (Option Int32) × gM} (h : f_X7_rootOf p1 μ = some RES) : vx_Met l yX7_rootOf [.code yX7_rootOf cX7_rootOf 2 (some .int)] ({ frames := 7, cells := 1, slots := 6, locals := 103 } : Room) (va_Pc [.ref (ad 0), .int p1] (gB l gFull D cy ad base μ)) (gQo RES.1 (fun v => some (.int v)) gFull D cy ad base RES.2) (gX (RES.1 = none) gFull D cy ad base RES.2) 1 6 (gA base) := by
  refine vx_ofW (cc := cX7_rootOf) (maxL := 2) (ret := (some .int)) (by decide) rfl ?_
  intro p e s m args below meth c s₁ B hml0 hT hv
  obtain ⟨rfl, E, hM⟩ := hv
  have F : gF p s m meth c cX7_rootOf RX7 2 (some .int) := gF_of B hml0
  obtain ⟨hx, hb, hml, hown, hlocks, hr⟩ := id F
  have hS : va_S (gA base) s.heap s.heap [] := va_S.rf
  have hl := lv_entry ([.ref (ad 0), .int p1]) (n := 2) (Nat.le_of_ble_eq_true rfl)
  rw [lg_entry_eq]
  generalize (lg_sl ([.ref (ad 0), .int p1]) ++ List.replicate (2 - (lg_sl ([.ref (ad 0), .int p1])).length) Slot.unset).toArray = ls at hl ⊢
  have hl : lv_has ls 2 [(0, .ref (ad 0)), (1, .int p1)] := hl
  unfold f_X7_rootOf at h
  refine lv_iload_n hx hb dX7_rootOf_0 rfl (lv_at hl 1 rfl) ?_
  refine lv_aload_n hx hb dX7_rootOf_1 rfl (lv_at hl 0 rfl) ?_
  refine gg_0_5 hx hb hown E hM hk_0 kw_463 dX7_rootOf_2 ?_
  refine gg_34_1 hx hb hown E hM hk_34 kw_360 dX7_rootOf_5 ?_
  obtain ⟨q1, hq1, h⟩ := gbind_e h
  refine g_callXS (As := [.int p1, .int (gi μ 34 1)]) (rest := []) hx hb (hml.trans hl.1.symm) hown E hM hS hy_X7_needIndex kw_935 (c_X7_needIndex hq1) rfl rfl (Nat.le_of_ble_eq_true rfl) ⟨Nat.le_of_ble_eq_true rfl, Nat.le_of_ble_eq_true rfl⟩ ⟨Nat.le_of_ble_eq_true rfl, Nat.le_of_ble_eq_true rfl⟩ dX7_rootOf_8 (fun e3 q9 ce H locs hM hS hce hcv hcl => ?_) (fun v2 e3 H locs hM hS => ?_)
  · replace h := gel_n e3 h
    obtain rfl := Option.some.inj h
    exact g_outX hT hlocks rfl hM hS hce hcv hcl (Nat.le_of_ble_eq_true rfl) (Nat.le_of_ble_eq_true rfl)
  · replace h := gel_s e3 h
    refine lv_aload_n hx hb dX7_rootOf_11 rfl (lv_at hl 0 rfl) ?_
    refine gg_0_2 hx hb hown E hM hk_0 kw_460 dX7_rootOf_12 ?_
    refine gg_6_0 hx hb hown E hM hk_6 kw_235 dX7_rootOf_15 ?_
    refine lv_aload_n hx hb dX7_rootOf_18 rfl (lv_at hl 0 rfl) ?_
    refine gg_0_5 hx hb hown E hM hk_0 kw_463 dX7_rootOf_19 ?_
    refine lv_aload_n hx hb dX7_rootOf_22 rfl (lv_at hl 0 rfl) ?_
    refine gg_0_5 hx hb hown E hM hk_0 kw_463 dX7_rootOf_23 ?_
    refine gg_34_4 hx hb hown E hM hk_34 kw_376 dX7_rootOf_26 ?_
    obtain ⟨q4, hq4, h⟩ := gbind_e h
    refine g_callV (As := [.ref (ad 34), .int (gi μ 34 4)]) (rest := []) hx hb (hml.trans hl.1.symm) hown E hM hS hy_X5_grow kw_652 (c_X5_grow hq4) hk_7 dd_7 rfl rfl rfl (Nat.le_of_ble_eq_true rfl) ⟨Nat.le_of_ble_eq_true rfl, Nat.le_of_ble_eq_true rfl⟩ ⟨Nat.le_of_ble_eq_true rfl, Nat.le_of_ble_eq_true rfl⟩ dX7_rootOf_29 (fun H locs hM hS => ?_)
    refine lv_aload_n hx hb dX7_rootOf_32 rfl (lv_at hl 0 rfl) ?_
    refine gg_0_2 hx hb hown E hM hk_0 kw_460 dX7_rootOf_33 ?_
    refine gg_6_0 hx hb hown E hM hk_6 kw_235 dX7_rootOf_36 ?_
    refine gg_7_0 hx hb hown E hM hk_7 kw_206 dX7_rootOf_39 ?_
    refine lv_iload_n hx hb dX7_rootOf_42 rfl (lv_at hl 1 rfl) ?_
    obtain ⟨c5, h⟩ := gchk_e h
    refine g_iald hx hb E hM hk_8 dd_8 c5 dX7_rootOf_43 ?_
    obtain rfl := Option.some.inj h
    exact g_retX rfl (Nat.le_of_ble_eq_true rfl) (Nat.le_of_ble_eq_true rfl) (g_iret hx hb hr hlocks hM hS dX7_rootOf_44)
def f_X7_partCount (μ : gM) : Option (Int32 × gM) :=
  Option.bind (f_X5_grow (gi μ 34 4) μ) (fun q1 => some ((gi q1 7 6), q1))
set_option maxHeartbeats 4000000 in
set_option maxRecDepth 100000 in
theorem c_X7_partCount {l : Launch} {D : va_G} {cy : Nat → ClassId} {ad : Nat → Nat} {base : Nat}  {μ : gM} {RES : Int32 × gM} (h : f_X7_partCount  μ = some RES) : Met l yX7_partCount [.code yX7_partCount cX7_partCount 1 (some .int)] ({ frames := 3, cells := 0, slots := 0, locals := 74 } : Room) (va_Pc [.ref (ad 0)] (gB l gFull D cy ad base μ)) (gQ (some (.int RES.1)) gFull D cy ad base RES.2) 0 0 (gA base) := by
  refine Met.ofW (cc := cX7_partCount) (maxL := 1) (ret := (some .int)) (by decide) rfl ?_
  intro p e s m args below meth c s₁ B hml0 hv
  obtain ⟨rfl, E, hM⟩ := hv
  have F : gF p s m meth c cX7_partCount RX7 1 (some .int) := gF_of B hml0
  obtain ⟨hx, hb, hml, hown, hlocks, hr⟩ := id F
  have hS : va_S (gA base) s.heap s.heap [] := va_S.rf
  have hl := lv_entry ([.ref (ad 0)]) (n := 1) (Nat.le_of_ble_eq_true rfl)
  rw [lg_entry_eq]
  generalize (lg_sl ([.ref (ad 0)]) ++ List.replicate (1 - (lg_sl ([.ref (ad 0)])).length) Slot.unset).toArray = ls at hl ⊢
  have hl : lv_has ls 1 [(0, .ref (ad 0))] := hl
  unfold f_X7_partCount at h
  refine lv_aload_n hx hb dX7_partCount_0 rfl (lv_at hl 0 rfl) ?_
  refine gg_0_2 hx hb hown E hM hk_0 kw_460 dX7_partCount_1 ?_
  refine gg_6_0 hx hb hown E hM hk_6 kw_235 dX7_partCount_4 ?_
  refine lv_aload_n hx hb dX7_partCount_7 rfl (lv_at hl 0 rfl) ?_
  refine gg_0_5 hx hb hown E hM hk_0 kw_463 dX7_partCount_8 ?_
  refine lv_aload_n hx hb dX7_partCount_11 rfl (lv_at hl 0 rfl) ?_
  refine gg_0_5 hx hb hown E hM hk_0 kw_463 dX7_partCount_12 ?_
  refine gg_34_4 hx hb hown E hM hk_34 kw_376 dX7_partCount_15 ?_
  obtain ⟨q1, hq1, h⟩ := gbind_e h
  refine g_callV (As := [.ref (ad 34), .int (gi μ 34 4)]) (rest := []) hx hb (hml.trans hl.1.symm) hown E hM hS hy_X5_grow kw_652 (c_X5_grow hq1) hk_7 dd_7 rfl rfl rfl (Nat.le_of_ble_eq_true rfl) ⟨Nat.le_of_ble_eq_true rfl, Nat.le_of_ble_eq_true rfl⟩ ⟨Nat.le_of_ble_eq_true rfl, Nat.le_of_ble_eq_true rfl⟩ dX7_partCount_18 (fun H locs hM hS => ?_)
  refine lv_aload_n hx hb dX7_partCount_21 rfl (lv_at hl 0 rfl) ?_
  refine gg_0_2 hx hb hown E hM hk_0 kw_460 dX7_partCount_22 ?_
  refine gg_6_0 hx hb hown E hM hk_6 kw_235 dX7_partCount_25 ?_
  refine gg_7_6 hx hb hown E hM hk_7 kw_218 dX7_partCount_28 ?_
  obtain rfl := Option.some.inj h
  exact g_iret hx hb hr hlocks hM hS dX7_partCount_31
def f_X7_distance (p1 : Int32) (p2 : Int32) (μ : gM) : Option ((Option Int32) × gM) :=
  Option.bind (f_X7_needIndex p1 (gi μ 34 1) μ) (fun q1 => Option.elim q1 (some (none, μ)) (fun v2 => Option.bind (f_X7_needIndex p2 (gi μ 34 1) μ) (fun q4 => Option.elim q4 (some (none, μ)) (fun v5 => Option.bind (f_X6_measure p1 μ) (fun q7 => gchk (gIn p2 16) (some ((some (gi q7 4 p2.toNatClampNeg)), q7)))))))
set_option maxHeartbeats 4000000 in
set_option maxRecDepth 100000 in
theorem c_X7_distance {l : Launch} {D : va_G} {cy : Nat → ClassId} {ad : Nat → Nat} {base : Nat} {p1 : Int32} {p2 : Int32} {μ : gM} {RES : (Option Int32) × gM} (h : f_X7_distance p1 p2 μ = some RES) : vx_Met l yX7_distance [.code yX7_distance cX7_distance 3 (some .int)] ({ frames := 7, cells := 2, slots := 12, locals := 103 } : Room) (va_Pc [.ref (ad 0), .int p1, .int p2] (gB l gFull D cy ad base μ)) (gQo RES.1 (fun v => some (.int v)) gFull D cy ad base RES.2) (gX (RES.1 = none) gFull D cy ad base RES.2) 2 12 (gA base) := by
  refine vx_ofW (cc := cX7_distance) (maxL := 3) (ret := (some .int)) (by decide) rfl ?_
  intro p e s m args below meth c s₁ B hml0 hT hv
  obtain ⟨rfl, E, hM⟩ := hv
  have F : gF p s m meth c cX7_distance RX7 3 (some .int) := gF_of B hml0
  obtain ⟨hx, hb, hml, hown, hlocks, hr⟩ := id F
  have hS : va_S (gA base) s.heap s.heap [] := va_S.rf
  have hl := lv_entry ([.ref (ad 0), .int p1, .int p2]) (n := 3) (Nat.le_of_ble_eq_true rfl)
  rw [lg_entry_eq]
  generalize (lg_sl ([.ref (ad 0), .int p1, .int p2]) ++ List.replicate (3 - (lg_sl ([.ref (ad 0), .int p1, .int p2])).length) Slot.unset).toArray = ls at hl ⊢
  have hl : lv_has ls 3 [(0, .ref (ad 0)), (1, .int p1), (2, .int p2)] := hl
  unfold f_X7_distance at h
  refine lv_iload_n hx hb dX7_distance_0 rfl (lv_at hl 1 rfl) ?_
  refine lv_aload_n hx hb dX7_distance_1 rfl (lv_at hl 0 rfl) ?_
  refine gg_0_5 hx hb hown E hM hk_0 kw_463 dX7_distance_2 ?_
  refine gg_34_1 hx hb hown E hM hk_34 kw_360 dX7_distance_5 ?_
  obtain ⟨q1, hq1, h⟩ := gbind_e h
  refine g_callXS (As := [.int p1, .int (gi μ 34 1)]) (rest := []) hx hb (hml.trans hl.1.symm) hown E hM hS hy_X7_needIndex kw_935 (c_X7_needIndex hq1) rfl rfl (Nat.le_of_ble_eq_true rfl) ⟨Nat.le_of_ble_eq_true rfl, Nat.le_of_ble_eq_true rfl⟩ ⟨Nat.le_of_ble_eq_true rfl, Nat.le_of_ble_eq_true rfl⟩ dX7_distance_8 (fun e3 q9 ce H locs hM hS hce hcv hcl => ?_) (fun v2 e3 H locs hM hS => ?_)
  · replace h := gel_n e3 h
    obtain rfl := Option.some.inj h
    exact g_outX hT hlocks rfl hM hS hce hcv hcl (Nat.le_of_ble_eq_true rfl) (Nat.le_of_ble_eq_true rfl)
  · replace h := gel_s e3 h
    refine lv_iload_n hx hb dX7_distance_11 rfl (lv_at hl 2 rfl) ?_
    refine lv_aload_n hx hb dX7_distance_12 rfl (lv_at hl 0 rfl) ?_
    refine gg_0_5 hx hb hown E hM hk_0 kw_463 dX7_distance_13 ?_
    refine gg_34_1 hx hb hown E hM hk_34 kw_360 dX7_distance_16 ?_
    obtain ⟨q4, hq4, h⟩ := gbind_e h
    refine g_callXS (As := [.int p2, .int (gi μ 34 1)]) (rest := []) hx hb (hml.trans hl.1.symm) hown E hM hS hy_X7_needIndex kw_935 (c_X7_needIndex hq4) rfl rfl (Nat.le_of_ble_eq_true rfl) ⟨Nat.le_of_ble_eq_true rfl, Nat.le_of_ble_eq_true rfl⟩ ⟨Nat.le_of_ble_eq_true rfl, Nat.le_of_ble_eq_true rfl⟩ dX7_distance_19 (fun e6 q9 ce H locs hM hS hce hcv hcl => ?_) (fun v5 e6 H locs hM hS => ?_)
    · replace h := gel_n e6 h
      obtain rfl := Option.some.inj h
      exact g_outX hT hlocks rfl hM hS hce hcv hcl (Nat.le_of_ble_eq_true rfl) (Nat.le_of_ble_eq_true rfl)
    · replace h := gel_s e6 h
      refine lv_aload_n hx hb dX7_distance_22 rfl (lv_at hl 0 rfl) ?_
      refine gg_0_1 hx hb hown E hM hk_0 kw_459 dX7_distance_23 ?_
      refine lv_aload_n hx hb dX7_distance_26 rfl (lv_at hl 0 rfl) ?_
      refine gg_0_5 hx hb hown E hM hk_0 kw_463 dX7_distance_27 ?_
      refine lv_iload_n hx hb dX7_distance_30 rfl (lv_at hl 1 rfl) ?_
      obtain ⟨q7, hq7, h⟩ := gbind_e h
      refine g_callV (As := [.ref (ad 34), .int p1]) (rest := []) hx hb (hml.trans hl.1.symm) hown E hM hS hy_X6_measure kw_1126 (c_X6_measure hq7) hk_3 dd_3 rfl rfl rfl (Nat.le_of_ble_eq_true rfl) ⟨Nat.le_of_ble_eq_true rfl, Nat.le_of_ble_eq_true rfl⟩ ⟨Nat.le_of_ble_eq_true rfl, Nat.le_of_ble_eq_true rfl⟩ dX7_distance_31 (fun H locs hM hS => ?_)
      refine lv_aload_n hx hb dX7_distance_34 rfl (lv_at hl 0 rfl) ?_
      refine gg_0_1 hx hb hown E hM hk_0 kw_459 dX7_distance_35 ?_
      refine gg_3_0 hx hb hown E hM hk_3 kw_177 dX7_distance_38 ?_
      refine lv_iload_n hx hb dX7_distance_41 rfl (lv_at hl 2 rfl) ?_
      obtain ⟨c8, h⟩ := gchk_e h
      refine g_iald hx hb E hM hk_4 dd_4 c8 dX7_distance_42 ?_
      obtain rfl := Option.some.inj h
      exact g_retX rfl (Nat.le_of_ble_eq_true rfl) (Nat.le_of_ble_eq_true rfl) (g_iret hx hb hr hlocks hM hS dX7_distance_43)
def f_X7_riseBetween (p1 : Int32) (p2 : Int32) (μ : gM) : Option ((Option Int32) × gM) :=
  Option.bind (f_X7_needIndex p1 (gi μ 34 1) μ) (fun q1 => Option.elim q1 (some (none, μ)) (fun v2 => Option.bind (f_X7_needIndex p2 (gi μ 34 1) μ) (fun q4 => Option.elim q4 (some (none, μ)) (fun v5 => Option.bind (f_X6_trace p1 p2 μ) (fun q7 => gchk (gIn p2 16) (if ((gi q7 4 p2.toNatClampNeg) = (-1 : Int32)) then some ((some (-2147483648 : Int32)), q7) else some ((some (gi q7 3 3)), q7)))))))
set_option maxHeartbeats 4000000 in
set_option maxRecDepth 100000 in
theorem c_X7_riseBetween {l : Launch} {D : va_G} {cy : Nat → ClassId} {ad : Nat → Nat} {base : Nat} {p1 : Int32} {p2 : Int32} {μ : gM} {RES : (Option Int32) × gM} (h : f_X7_riseBetween p1 p2 μ = some RES) : vx_Met l yX7_riseBetween [.code yX7_riseBetween cX7_riseBetween 3 (some .int)] ({ frames := 7, cells := 2, slots := 12, locals := 116 } : Room) (va_Pc [.ref (ad 0), .int p1, .int p2] (gB l gFull D cy ad base μ)) (gQo RES.1 (fun v => some (.int v)) gFull D cy ad base RES.2) (gX (RES.1 = none) gFull D cy ad base RES.2) 2 12 (gA base) := by
  refine vx_ofW (cc := cX7_riseBetween) (maxL := 3) (ret := (some .int)) (by decide) rfl ?_
  intro p e s m args below meth c s₁ B hml0 hT hv
  obtain ⟨rfl, E, hM⟩ := hv
  have F : gF p s m meth c cX7_riseBetween RX7 3 (some .int) := gF_of B hml0
  obtain ⟨hx, hb, hml, hown, hlocks, hr⟩ := id F
  have hS : va_S (gA base) s.heap s.heap [] := va_S.rf
  have hl := lv_entry ([.ref (ad 0), .int p1, .int p2]) (n := 3) (Nat.le_of_ble_eq_true rfl)
  rw [lg_entry_eq]
  generalize (lg_sl ([.ref (ad 0), .int p1, .int p2]) ++ List.replicate (3 - (lg_sl ([.ref (ad 0), .int p1, .int p2])).length) Slot.unset).toArray = ls at hl ⊢
  have hl : lv_has ls 3 [(0, .ref (ad 0)), (1, .int p1), (2, .int p2)] := hl
  unfold f_X7_riseBetween at h
  refine lv_iload_n hx hb dX7_riseBetween_0 rfl (lv_at hl 1 rfl) ?_
  refine lv_aload_n hx hb dX7_riseBetween_1 rfl (lv_at hl 0 rfl) ?_
  refine gg_0_5 hx hb hown E hM hk_0 kw_463 dX7_riseBetween_2 ?_
  refine gg_34_1 hx hb hown E hM hk_34 kw_360 dX7_riseBetween_5 ?_
  obtain ⟨q1, hq1, h⟩ := gbind_e h
  refine g_callXS (As := [.int p1, .int (gi μ 34 1)]) (rest := []) hx hb (hml.trans hl.1.symm) hown E hM hS hy_X7_needIndex kw_935 (c_X7_needIndex hq1) rfl rfl (Nat.le_of_ble_eq_true rfl) ⟨Nat.le_of_ble_eq_true rfl, Nat.le_of_ble_eq_true rfl⟩ ⟨Nat.le_of_ble_eq_true rfl, Nat.le_of_ble_eq_true rfl⟩ dX7_riseBetween_8 (fun e3 q9 ce H locs hM hS hce hcv hcl => ?_) (fun v2 e3 H locs hM hS => ?_)
  · replace h := gel_n e3 h
    obtain rfl := Option.some.inj h
    exact g_outX hT hlocks rfl hM hS hce hcv hcl (Nat.le_of_ble_eq_true rfl) (Nat.le_of_ble_eq_true rfl)
  · replace h := gel_s e3 h
    refine lv_iload_n hx hb dX7_riseBetween_11 rfl (lv_at hl 2 rfl) ?_
    refine lv_aload_n hx hb dX7_riseBetween_12 rfl (lv_at hl 0 rfl) ?_
    refine gg_0_5 hx hb hown E hM hk_0 kw_463 dX7_riseBetween_13 ?_
    refine gg_34_1 hx hb hown E hM hk_34 kw_360 dX7_riseBetween_16 ?_
    obtain ⟨q4, hq4, h⟩ := gbind_e h
    refine g_callXS (As := [.int p2, .int (gi μ 34 1)]) (rest := []) hx hb (hml.trans hl.1.symm) hown E hM hS hy_X7_needIndex kw_935 (c_X7_needIndex hq4) rfl rfl (Nat.le_of_ble_eq_true rfl) ⟨Nat.le_of_ble_eq_true rfl, Nat.le_of_ble_eq_true rfl⟩ ⟨Nat.le_of_ble_eq_true rfl, Nat.le_of_ble_eq_true rfl⟩ dX7_riseBetween_19 (fun e6 q9 ce H locs hM hS hce hcv hcl => ?_) (fun v5 e6 H locs hM hS => ?_)
    · replace h := gel_n e6 h
      obtain rfl := Option.some.inj h
      exact g_outX hT hlocks rfl hM hS hce hcv hcl (Nat.le_of_ble_eq_true rfl) (Nat.le_of_ble_eq_true rfl)
    · replace h := gel_s e6 h
      refine lv_aload_n hx hb dX7_riseBetween_22 rfl (lv_at hl 0 rfl) ?_
      refine gg_0_1 hx hb hown E hM hk_0 kw_459 dX7_riseBetween_23 ?_
      refine lv_aload_n hx hb dX7_riseBetween_26 rfl (lv_at hl 0 rfl) ?_
      refine gg_0_5 hx hb hown E hM hk_0 kw_463 dX7_riseBetween_27 ?_
      refine lv_iload_n hx hb dX7_riseBetween_30 rfl (lv_at hl 1 rfl) ?_
      refine lv_iload_n hx hb dX7_riseBetween_31 rfl (lv_at hl 2 rfl) ?_
      obtain ⟨q7, hq7, h⟩ := gbind_e h
      refine g_callV (As := [.ref (ad 34), .int p1, .int p2]) (rest := []) hx hb (hml.trans hl.1.symm) hown E hM hS hy_X6_trace kw_1147 (c_X6_trace hq7) hk_3 dd_3 rfl rfl rfl (Nat.le_of_ble_eq_true rfl) ⟨Nat.le_of_ble_eq_true rfl, Nat.le_of_ble_eq_true rfl⟩ ⟨Nat.le_of_ble_eq_true rfl, Nat.le_of_ble_eq_true rfl⟩ dX7_riseBetween_32 (fun H locs hM hS => ?_)
      refine lv_aload_n hx hb dX7_riseBetween_35 rfl (lv_at hl 0 rfl) ?_
      refine gg_0_1 hx hb hown E hM hk_0 kw_459 dX7_riseBetween_36 ?_
      refine gg_3_0 hx hb hown E hM hk_3 kw_177 dX7_riseBetween_39 ?_
      refine lv_iload_n hx hb dX7_riseBetween_42 rfl (lv_at hl 2 rfl) ?_
      obtain ⟨c8, h⟩ := gchk_e h
      refine g_iald hx hb E hM hk_4 dd_4 c8 dX7_riseBetween_43 ?_
      refine lv_iconst (v := (-1 : Int32)) hx hb dX7_riseBetween_44 (by decide) ?_
      refine lv_icmp_ne (tgt := 53) hx hb dX7_riseBetween_45 (by decide) (fun c9 => ?_) (fun c9 => ?_)
      · replace h := gif_f c9 h
        refine lv_aload_n hx hb dX7_riseBetween_53 rfl (lv_at hl 0 rfl) ?_
        refine gg_0_1 hx hb hown E hM hk_0 kw_459 dX7_riseBetween_54 ?_
        refine gg_3_3 hx hb hown E hM hk_3 kw_182 dX7_riseBetween_57 ?_
        obtain rfl := Option.some.inj h
        exact g_retX rfl (Nat.le_of_ble_eq_true rfl) (Nat.le_of_ble_eq_true rfl) (g_iret hx hb hr hlocks hM hS dX7_riseBetween_60)
      · replace h := gif_t c9 h
        refine lv_ldc hx hb hown (v := (-2147483648 : Int32)) (E.kw kw_868) dX7_riseBetween_48 ?_
        refine lv_goto (tgt := 60) hx hb dX7_riseBetween_50 (by decide) ?_
        obtain rfl := Option.some.inj h
        exact g_retX rfl (Nat.le_of_ble_eq_true rfl) (Nat.le_of_ble_eq_true rfl) (g_iret hx hb hr hlocks hM hS dX7_riseBetween_60)
def f_X7_wayBetween (p1 : Int32) (p2 : Int32) (μ : gM) : Option ((Option Int32) × gM) :=
  Option.bind (f_X7_needIndex p1 (gi μ 34 1) μ) (fun q1 => Option.elim q1 (some (none, μ)) (fun v2 => Option.bind (f_X7_needIndex p2 (gi μ 34 1) μ) (fun q4 => Option.elim q4 (some (none, μ)) (fun v5 => Option.bind (f_X6_trace p1 p2 μ) (fun q7 => some ((some (gi q7 3 2)), q7))))))
set_option maxHeartbeats 4000000 in
set_option maxRecDepth 100000 in
theorem c_X7_wayBetween {l : Launch} {D : va_G} {cy : Nat → ClassId} {ad : Nat → Nat} {base : Nat} {p1 : Int32} {p2 : Int32} {μ : gM} {RES : (Option Int32) × gM} (h : f_X7_wayBetween p1 p2 μ = some RES) : vx_Met l yX7_wayBetween [.code yX7_wayBetween cX7_wayBetween 3 (some .int)] ({ frames := 7, cells := 2, slots := 12, locals := 116 } : Room) (va_Pc [.ref (ad 0), .int p1, .int p2] (gB l gFull D cy ad base μ)) (gQo RES.1 (fun v => some (.int v)) gFull D cy ad base RES.2) (gX (RES.1 = none) gFull D cy ad base RES.2) 2 12 (gA base) := by
  refine vx_ofW (cc := cX7_wayBetween) (maxL := 3) (ret := (some .int)) (by decide) rfl ?_
  intro p e s m args below meth c s₁ B hml0 hT hv
  obtain ⟨rfl, E, hM⟩ := hv
  have F : gF p s m meth c cX7_wayBetween RX7 3 (some .int) := gF_of B hml0
  obtain ⟨hx, hb, hml, hown, hlocks, hr⟩ := id F
  have hS : va_S (gA base) s.heap s.heap [] := va_S.rf
  have hl := lv_entry ([.ref (ad 0), .int p1, .int p2]) (n := 3) (Nat.le_of_ble_eq_true rfl)
  rw [lg_entry_eq]
  generalize (lg_sl ([.ref (ad 0), .int p1, .int p2]) ++ List.replicate (3 - (lg_sl ([.ref (ad 0), .int p1, .int p2])).length) Slot.unset).toArray = ls at hl ⊢
  have hl : lv_has ls 3 [(0, .ref (ad 0)), (1, .int p1), (2, .int p2)] := hl
  unfold f_X7_wayBetween at h
  refine lv_iload_n hx hb dX7_wayBetween_0 rfl (lv_at hl 1 rfl) ?_
  refine lv_aload_n hx hb dX7_wayBetween_1 rfl (lv_at hl 0 rfl) ?_
  refine gg_0_5 hx hb hown E hM hk_0 kw_463 dX7_wayBetween_2 ?_
  refine gg_34_1 hx hb hown E hM hk_34 kw_360 dX7_wayBetween_5 ?_
  obtain ⟨q1, hq1, h⟩ := gbind_e h
  refine g_callXS (As := [.int p1, .int (gi μ 34 1)]) (rest := []) hx hb (hml.trans hl.1.symm) hown E hM hS hy_X7_needIndex kw_935 (c_X7_needIndex hq1) rfl rfl (Nat.le_of_ble_eq_true rfl) ⟨Nat.le_of_ble_eq_true rfl, Nat.le_of_ble_eq_true rfl⟩ ⟨Nat.le_of_ble_eq_true rfl, Nat.le_of_ble_eq_true rfl⟩ dX7_wayBetween_8 (fun e3 q9 ce H locs hM hS hce hcv hcl => ?_) (fun v2 e3 H locs hM hS => ?_)
  · replace h := gel_n e3 h
    obtain rfl := Option.some.inj h
    exact g_outX hT hlocks rfl hM hS hce hcv hcl (Nat.le_of_ble_eq_true rfl) (Nat.le_of_ble_eq_true rfl)
  · replace h := gel_s e3 h
    refine lv_iload_n hx hb dX7_wayBetween_11 rfl (lv_at hl 2 rfl) ?_
    refine lv_aload_n hx hb dX7_wayBetween_12 rfl (lv_at hl 0 rfl) ?_
    refine gg_0_5 hx hb hown E hM hk_0 kw_463 dX7_wayBetween_13 ?_
    refine gg_34_1 hx hb hown E hM hk_34 kw_360 dX7_wayBetween_16 ?_
    obtain ⟨q4, hq4, h⟩ := gbind_e h
    refine g_callXS (As := [.int p2, .int (gi μ 34 1)]) (rest := []) hx hb (hml.trans hl.1.symm) hown E hM hS hy_X7_needIndex kw_935 (c_X7_needIndex hq4) rfl rfl (Nat.le_of_ble_eq_true rfl) ⟨Nat.le_of_ble_eq_true rfl, Nat.le_of_ble_eq_true rfl⟩ ⟨Nat.le_of_ble_eq_true rfl, Nat.le_of_ble_eq_true rfl⟩ dX7_wayBetween_19 (fun e6 q9 ce H locs hM hS hce hcv hcl => ?_) (fun v5 e6 H locs hM hS => ?_)
    · replace h := gel_n e6 h
      obtain rfl := Option.some.inj h
      exact g_outX hT hlocks rfl hM hS hce hcv hcl (Nat.le_of_ble_eq_true rfl) (Nat.le_of_ble_eq_true rfl)
    · replace h := gel_s e6 h
      refine lv_aload_n hx hb dX7_wayBetween_22 rfl (lv_at hl 0 rfl) ?_
      refine gg_0_1 hx hb hown E hM hk_0 kw_459 dX7_wayBetween_23 ?_
      refine lv_aload_n hx hb dX7_wayBetween_26 rfl (lv_at hl 0 rfl) ?_
      refine gg_0_5 hx hb hown E hM hk_0 kw_463 dX7_wayBetween_27 ?_
      refine lv_iload_n hx hb dX7_wayBetween_30 rfl (lv_at hl 1 rfl) ?_
      refine lv_iload_n hx hb dX7_wayBetween_31 rfl (lv_at hl 2 rfl) ?_
      obtain ⟨q7, hq7, h⟩ := gbind_e h
      refine g_callV (As := [.ref (ad 34), .int p1, .int p2]) (rest := []) hx hb (hml.trans hl.1.symm) hown E hM hS hy_X6_trace kw_1147 (c_X6_trace hq7) hk_3 dd_3 rfl rfl rfl (Nat.le_of_ble_eq_true rfl) ⟨Nat.le_of_ble_eq_true rfl, Nat.le_of_ble_eq_true rfl⟩ ⟨Nat.le_of_ble_eq_true rfl, Nat.le_of_ble_eq_true rfl⟩ dX7_wayBetween_32 (fun H locs hM hS => ?_)
      refine lv_aload_n hx hb dX7_wayBetween_35 rfl (lv_at hl 0 rfl) ?_
      refine gg_0_1 hx hb hown E hM hk_0 kw_459 dX7_wayBetween_36 ?_
      refine gg_3_2 hx hb hown E hM hk_3 kw_180 dX7_wayBetween_39 ?_
      obtain rfl := Option.some.inj h
      exact g_retX rfl (Nat.le_of_ble_eq_true rfl) (Nat.le_of_ble_eq_true rfl) (g_iret hx hb hr hlocks hM hS dX7_wayBetween_42)
def b_X7_bridges_28 (x1 : Int32) (x2 : Int32) (μ : gM) : Option ((Int32 × Int32) ⊕ (Int32)) :=
  if ((gi μ 6 1) ≤ x2) then some (.inr x1) else gchk (gIn x2 20) (some (.inl ((x1 &&& ((gi μ 14 x2.toNatClampNeg) ^^^ (-1 : Int32))), (x2 + (1 : Int32)))))
set_option maxHeartbeats 4000000 in
set_option maxRecDepth 100000 in
theorem wb_X7_bridges_28 {p : Program} {l : Launch} {e : Env} {s : State} {m : MethodId} {args : Array Value} {below : List Frame} {meth : Method} {c : Code} {D : va_G} {cy : Nat → ClassId} {ad : Nat → Nat} {base : Nat} {x1 : Int32} {x2 : Int32} {μ : gM} {o : (Int32 × Int32) ⊕ (Int32)} {RES : Int32 × gM} (h : b_X7_bridges_28 x1 x2 μ = some o) (F : gF p s m meth c cX7_bridges RX7 3 (some .int)) (E : gEnv l D cy ad base s) (kc : ∀ (t : Int32 × Int32) {H : Heap} {locs : List Loc} {ls : Array Slot}, o = .inl t → gW gFull D cy ad base μ H → va_S (gA base) s.heap H locs → lv_has ls 3 [(0, .ref (ad 0)), (1, .int t.1), (2, .int t.2)] → W p l e ({ frames := 5, cells := 0, slots := 0, locals := 120 } : Room) s m args below meth c H locs 0 0 (MQ below (gQ (some (.int RES.1)) gFull D cy ad base RES.2) args s 0 0 (gA base)) (F0 m 28 ls [])) (kx : ∀ (t : Int32) {H : Heap} {locs : List Loc} {ls : Array Slot}, o = .inr t → gW gFull D cy ad base μ H → va_S (gA base) s.heap H locs → lv_has ls 3 [(1, .int t)] → W p l e ({ frames := 5, cells := 0, slots := 0, locals := 120 } : Room) s m args below meth c H locs 0 0 (MQ below (gQ (some (.int RES.1)) gFull D cy ad base RES.2) args s 0 0 (gA base)) (F0 m 59 ls []))  {H : Heap} {locs : List Loc} {ls : Array Slot} (hM : gW gFull D cy ad base μ H) (hS : va_S (gA base) s.heap H locs) (hl : lv_has ls 3 [(0, .ref (ad 0)), (1, .int x1), (2, .int x2)]) : W p l e ({ frames := 5, cells := 0, slots := 0, locals := 120 } : Room) s m args below meth c H locs 0 0 (MQ below (gQ (some (.int RES.1)) gFull D cy ad base RES.2) args s 0 0 (gA base)) (F0 m 28 ls []) := by
  obtain ⟨hx, hb, hml, hown, hlocks, hr⟩ := id F
  unfold b_X7_bridges_28 at h
  refine lv_iload_n hx hb dX7_bridges_28 rfl (lv_at hl 2 rfl) ?_
  refine lv_aload_n hx hb dX7_bridges_29 rfl (lv_at hl 0 rfl) ?_
  refine gg_0_2 hx hb hown E hM hk_0 kw_460 dX7_bridges_30 ?_
  refine gg_6_1 hx hb hown E hM hk_6 kw_237 dX7_bridges_33 ?_
  refine lv_icmp_ge (tgt := 59) hx hb dX7_bridges_36 (by decide) (fun c2 => ?_) (fun c2 => ?_)
  · replace h := gif_t c2 h
    exact kx _ (Option.some.inj h).symm hM hS (lv_sub hl [1] rfl)
  · replace h := gif_f c2 h
    refine lv_iload_n hx hb dX7_bridges_39 rfl (lv_at hl 1 rfl) ?_
    refine lv_aload_n hx hb dX7_bridges_40 rfl (lv_at hl 0 rfl) ?_
    refine gg_0_2 hx hb hown E hM hk_0 kw_460 dX7_bridges_41 ?_
    refine gg_6_3 hx hb hown E hM hk_6 kw_241 dX7_bridges_44 ?_
    refine lv_iload_n hx hb dX7_bridges_47 rfl (lv_at hl 2 rfl) ?_
    obtain ⟨c3, h⟩ := gchk_e h
    refine g_iald hx hb E hM hk_14 dd_14 c3 dX7_bridges_48 ?_
    refine lv_iconst (v := (-1 : Int32)) hx hb dX7_bridges_49 (by decide) ?_
    refine lv_ixor hx hb dX7_bridges_50 ?_
    refine lv_iand hx hb dX7_bridges_51 ?_
    refine lv_istore_n (lv' := [(1, .int (x1 &&& ((gi μ 14 x2.toNatClampNeg) ^^^ (-1 : Int32)))), (0, .ref (ad 0)), (2, .int x2)]) hx hb dX7_bridges_52 rfl hl (by decide) rfl (fun ls hl => ?_)
    refine lv_iinc (v := (x2 + (1 : Int32))) (lv' := [(2, .int (x2 + (1 : Int32))), (1, .int (x1 &&& ((gi μ 14 x2.toNatClampNeg) ^^^ (-1 : Int32)))), (0, .ref (ad 0))]) hx hb dX7_bridges_53 hl (k := 2) rfl rfl (by decide) rfl (fun ls hl => ?_)
    refine lv_goto (tgt := 28) hx hb dX7_bridges_56 (by decide) ?_
    exact kc _ (Option.some.inj h).symm hM hS (lv_sub hl [2, 1, 0] rfl)
set_option maxHeartbeats 4000000 in
theorem wl_X7_bridges_28 {p : Program} {l : Launch} {e : Env} {s : State} {m : MethodId} {args : Array Value} {below : List Frame} {meth : Method} {c : Code} {D : va_G} {cy : Nat → ClassId} {ad : Nat → Nat} {base : Nat}  {μ : gM} {r : Int32} {RES : Int32 × gM} (F : gF p s m meth c cX7_bridges RX7 3 (some .int)) (E : gEnv l D cy ad base s) (kx : ∀ (t : Int32) {H : Heap} {locs : List Loc} {ls : Array Slot}, r = t → gW gFull D cy ad base μ H → va_S (gA base) s.heap H locs → lv_has ls 3 [(1, .int t)] → W p l e ({ frames := 5, cells := 0, slots := 0, locals := 120 } : Room) s m args below meth c H locs 0 0 (MQ below (gQ (some (.int RES.1)) gFull D cy ad base RES.2) args s 0 0 (gA base)) (F0 m 59 ls []))  : ∀ (n : Nat) (x1 : Int32) (x2 : Int32), gloop (fun t => b_X7_bridges_28  t.1 t.2 μ) n (x1, x2) = some r → ∀ {H : Heap} {locs : List Loc} {ls : Array Slot}, gW gFull D cy ad base μ H → va_S (gA base) s.heap H locs → lv_has ls 3 [(0, .ref (ad 0)), (1, .int x1), (2, .int x2)] → W p l e ({ frames := 5, cells := 0, slots := 0, locals := 120 } : Room) s m args below meth c H locs 0 0 (MQ below (gQ (some (.int RES.1)) gFull D cy ad base RES.2) args s 0 0 (gA base)) (F0 m 28 ls []) := by
  intro n
  induction n with
  | zero =>
    intro x1 x2 h
    exact (gloop_0 h).elim
  | succ n ih =>
    intro x1 x2 h H locs ls hM hS hl
    obtain ⟨o, h0, hc, hq⟩ := gloop_s h
    have h1 : b_X7_bridges_28 x1 x2 μ = some o := h0
    exact wb_X7_bridges_28 h1 F E (fun t H locs ls ho hM hS hl => ih t.1 t.2 (hc t ho) hM hS hl) (fun t H locs ls ho hM hS hl => kx t (hq _ ho).symm hM hS hl) hM hS hl
def f_X7_bridges (μ : gM) : Option (Int32 × gM) :=
  Option.bind (f_X2_find (gi μ 34 4) μ) (fun q1 => Option.bind (gloop (fun t => b_X7_bridges_28  t.1 t.2 q1) gFuel ((gi q1 34 4), (0 : Int32))) (fun q4 => some (q4, q1)))
set_option maxHeartbeats 4000000 in
set_option maxRecDepth 100000 in
theorem c_X7_bridges {l : Launch} {D : va_G} {cy : Nat → ClassId} {ad : Nat → Nat} {base : Nat}  {μ : gM} {RES : Int32 × gM} (h : f_X7_bridges  μ = some RES) : Met l yX7_bridges [.code yX7_bridges cX7_bridges 3 (some .int)] ({ frames := 5, cells := 0, slots := 0, locals := 120 } : Room) (va_Pc [.ref (ad 0)] (gB l gFull D cy ad base μ)) (gQ (some (.int RES.1)) gFull D cy ad base RES.2) 0 0 (gA base) := by
  refine Met.ofW (cc := cX7_bridges) (maxL := 3) (ret := (some .int)) (by decide) rfl ?_
  intro p e s m args below meth c s₁ B hml0 hv
  obtain ⟨rfl, E, hM⟩ := hv
  have F : gF p s m meth c cX7_bridges RX7 3 (some .int) := gF_of B hml0
  obtain ⟨hx, hb, hml, hown, hlocks, hr⟩ := id F
  have hS : va_S (gA base) s.heap s.heap [] := va_S.rf
  have hl := lv_entry ([.ref (ad 0)]) (n := 3) (Nat.le_of_ble_eq_true rfl)
  rw [lg_entry_eq]
  generalize (lg_sl ([.ref (ad 0)]) ++ List.replicate (3 - (lg_sl ([.ref (ad 0)])).length) Slot.unset).toArray = ls at hl ⊢
  have hl : lv_has ls 3 [(0, .ref (ad 0))] := hl
  unfold f_X7_bridges at h
  refine lv_aload_n hx hb dX7_bridges_0 rfl (lv_at hl 0 rfl) ?_
  refine gg_0_2 hx hb hown E hM hk_0 kw_460 dX7_bridges_1 ?_
  refine lv_aload_n hx hb dX7_bridges_4 rfl (lv_at hl 0 rfl) ?_
  refine gg_0_5 hx hb hown E hM hk_0 kw_463 dX7_bridges_5 ?_
  refine lv_aload_n hx hb dX7_bridges_8 rfl (lv_at hl 0 rfl) ?_
  refine gg_0_5 hx hb hown E hM hk_0 kw_463 dX7_bridges_9 ?_
  refine gg_34_4 hx hb hown E hM hk_34 kw_376 dX7_bridges_12 ?_
  obtain ⟨q1, hq1, h⟩ := gbind_e h
  refine g_callV (As := [.ref (ad 34), .int (gi μ 34 4)]) (rest := []) hx hb (hml.trans hl.1.symm) hown E hM hS hy_X2_find kw_668 (c_X2_find hq1) hk_6 dd_6 rfl rfl rfl (Nat.le_of_ble_eq_true rfl) ⟨Nat.le_of_ble_eq_true rfl, Nat.le_of_ble_eq_true rfl⟩ ⟨Nat.le_of_ble_eq_true rfl, Nat.le_of_ble_eq_true rfl⟩ dX7_bridges_15 (fun H locs hM hS => ?_)
  refine lv_aload_n hx hb dX7_bridges_18 rfl (lv_at hl 0 rfl) ?_
  refine gg_0_5 hx hb hown E hM hk_0 kw_463 dX7_bridges_19 ?_
  refine gg_34_4 hx hb hown E hM hk_34 kw_376 dX7_bridges_22 ?_
  refine lv_istore_n (lv' := [(1, .int (gi q1 34 4)), (0, .ref (ad 0))]) hx hb dX7_bridges_25 rfl hl (by decide) rfl (fun ls hl => ?_)
  refine lv_iconst (v := (0 : Int32)) hx hb dX7_bridges_26 (by decide) ?_
  refine lv_istore_n (lv' := [(2, .int (0 : Int32)), (1, .int (gi q1 34 4)), (0, .ref (ad 0))]) hx hb dX7_bridges_27 rfl hl (by decide) rfl (fun ls hl => ?_)
  obtain ⟨z5, h1, h⟩ := gbind_e h
  refine wl_X7_bridges_28 F E (r := z5) (fun q4 H locs ls e1 hM hS hl => ?_) gFuel (gi q1 34 4) (0 : Int32) h1 hM hS (lv_sub hl [2, 1, 0] rfl)
  replace e1 : z5 = q4 := e1
  rw [e1] at h
  refine lv_iload_n hx hb dX7_bridges_59 rfl (lv_at hl 0 rfl) ?_
  obtain rfl := Option.some.inj h
  exact g_iret hx hb hr hlocks hM hS dX7_bridges_60
def f_X7_treeLines (μ : gM) : Option (Int32 × gM) :=
  Option.bind (f_X5_grow (gi μ 34 4) μ) (fun q1 => some ((gi q1 7 5), q1))
set_option maxHeartbeats 4000000 in
set_option maxRecDepth 100000 in
theorem c_X7_treeLines {l : Launch} {D : va_G} {cy : Nat → ClassId} {ad : Nat → Nat} {base : Nat}  {μ : gM} {RES : Int32 × gM} (h : f_X7_treeLines  μ = some RES) : Met l yX7_treeLines [.code yX7_treeLines cX7_treeLines 1 (some .int)] ({ frames := 3, cells := 0, slots := 0, locals := 74 } : Room) (va_Pc [.ref (ad 0)] (gB l gFull D cy ad base μ)) (gQ (some (.int RES.1)) gFull D cy ad base RES.2) 0 0 (gA base) := by
  refine Met.ofW (cc := cX7_treeLines) (maxL := 1) (ret := (some .int)) (by decide) rfl ?_
  intro p e s m args below meth c s₁ B hml0 hv
  obtain ⟨rfl, E, hM⟩ := hv
  have F : gF p s m meth c cX7_treeLines RX7 1 (some .int) := gF_of B hml0
  obtain ⟨hx, hb, hml, hown, hlocks, hr⟩ := id F
  have hS : va_S (gA base) s.heap s.heap [] := va_S.rf
  have hl := lv_entry ([.ref (ad 0)]) (n := 1) (Nat.le_of_ble_eq_true rfl)
  rw [lg_entry_eq]
  generalize (lg_sl ([.ref (ad 0)]) ++ List.replicate (1 - (lg_sl ([.ref (ad 0)])).length) Slot.unset).toArray = ls at hl ⊢
  have hl : lv_has ls 1 [(0, .ref (ad 0))] := hl
  unfold f_X7_treeLines at h
  refine lv_aload_n hx hb dX7_treeLines_0 rfl (lv_at hl 0 rfl) ?_
  refine gg_0_2 hx hb hown E hM hk_0 kw_460 dX7_treeLines_1 ?_
  refine gg_6_0 hx hb hown E hM hk_6 kw_235 dX7_treeLines_4 ?_
  refine lv_aload_n hx hb dX7_treeLines_7 rfl (lv_at hl 0 rfl) ?_
  refine gg_0_5 hx hb hown E hM hk_0 kw_463 dX7_treeLines_8 ?_
  refine lv_aload_n hx hb dX7_treeLines_11 rfl (lv_at hl 0 rfl) ?_
  refine gg_0_5 hx hb hown E hM hk_0 kw_463 dX7_treeLines_12 ?_
  refine gg_34_4 hx hb hown E hM hk_34 kw_376 dX7_treeLines_15 ?_
  obtain ⟨q1, hq1, h⟩ := gbind_e h
  refine g_callV (As := [.ref (ad 34), .int (gi μ 34 4)]) (rest := []) hx hb (hml.trans hl.1.symm) hown E hM hS hy_X5_grow kw_652 (c_X5_grow hq1) hk_7 dd_7 rfl rfl rfl (Nat.le_of_ble_eq_true rfl) ⟨Nat.le_of_ble_eq_true rfl, Nat.le_of_ble_eq_true rfl⟩ ⟨Nat.le_of_ble_eq_true rfl, Nat.le_of_ble_eq_true rfl⟩ dX7_treeLines_18 (fun H locs hM hS => ?_)
  refine lv_aload_n hx hb dX7_treeLines_21 rfl (lv_at hl 0 rfl) ?_
  refine gg_0_2 hx hb hown E hM hk_0 kw_460 dX7_treeLines_22 ?_
  refine gg_6_0 hx hb hown E hM hk_6 kw_235 dX7_treeLines_25 ?_
  refine gg_7_5 hx hb hown E hM hk_7 kw_216 dX7_treeLines_28 ?_
  obtain rfl := Option.some.inj h
  exact g_iret hx hb hr hlocks hM hS dX7_treeLines_31
def f_X7_countLoops (μ : gM) : Option (Int32 × gM) :=
  Option.bind (f_X5_grow (gi μ 34 4) μ) (fun q1 => Option.bind (f_J6_bitCount_0f7a4 ((gi q1 34 4) &&& ((gi q1 7 5) ^^^ (-1 : Int32))) q1) (fun q2 => some (q2, q1)))
set_option maxHeartbeats 4000000 in
set_option maxRecDepth 100000 in
theorem c_X7_countLoops {l : Launch} {D : va_G} {cy : Nat → ClassId} {ad : Nat → Nat} {base : Nat}  {μ : gM} {RES : Int32 × gM} (h : f_X7_countLoops  μ = some RES) : Met l yX7_countLoops [.code yX7_countLoops cX7_countLoops 1 (some .int)] ({ frames := 3, cells := 0, slots := 0, locals := 74 } : Room) (va_Pc [.ref (ad 0)] (gB l gFull D cy ad base μ)) (gQ (some (.int RES.1)) gFull D cy ad base RES.2) 0 0 (gA base) := by
  refine Met.ofW (cc := cX7_countLoops) (maxL := 1) (ret := (some .int)) (by decide) rfl ?_
  intro p e s m args below meth c s₁ B hml0 hv
  obtain ⟨rfl, E, hM⟩ := hv
  have F : gF p s m meth c cX7_countLoops RX7 1 (some .int) := gF_of B hml0
  obtain ⟨hx, hb, hml, hown, hlocks, hr⟩ := id F
  have hS : va_S (gA base) s.heap s.heap [] := va_S.rf
  have hl := lv_entry ([.ref (ad 0)]) (n := 1) (Nat.le_of_ble_eq_true rfl)
  rw [lg_entry_eq]
  generalize (lg_sl ([.ref (ad 0)]) ++ List.replicate (1 - (lg_sl ([.ref (ad 0)])).length) Slot.unset).toArray = ls at hl ⊢
  have hl : lv_has ls 1 [(0, .ref (ad 0))] := hl
  unfold f_X7_countLoops at h
  refine lv_aload_n hx hb dX7_countLoops_0 rfl (lv_at hl 0 rfl) ?_
  refine gg_0_2 hx hb hown E hM hk_0 kw_460 dX7_countLoops_1 ?_
  refine gg_6_0 hx hb hown E hM hk_6 kw_235 dX7_countLoops_4 ?_
  refine lv_aload_n hx hb dX7_countLoops_7 rfl (lv_at hl 0 rfl) ?_
  refine gg_0_5 hx hb hown E hM hk_0 kw_463 dX7_countLoops_8 ?_
  refine lv_aload_n hx hb dX7_countLoops_11 rfl (lv_at hl 0 rfl) ?_
  refine gg_0_5 hx hb hown E hM hk_0 kw_463 dX7_countLoops_12 ?_
  refine gg_34_4 hx hb hown E hM hk_34 kw_376 dX7_countLoops_15 ?_
  obtain ⟨q1, hq1, h⟩ := gbind_e h
  refine g_callV (As := [.ref (ad 34), .int (gi μ 34 4)]) (rest := []) hx hb (hml.trans hl.1.symm) hown E hM hS hy_X5_grow kw_652 (c_X5_grow hq1) hk_7 dd_7 rfl rfl rfl (Nat.le_of_ble_eq_true rfl) ⟨Nat.le_of_ble_eq_true rfl, Nat.le_of_ble_eq_true rfl⟩ ⟨Nat.le_of_ble_eq_true rfl, Nat.le_of_ble_eq_true rfl⟩ dX7_countLoops_18 (fun H locs hM hS => ?_)
  refine lv_aload_n hx hb dX7_countLoops_21 rfl (lv_at hl 0 rfl) ?_
  refine gg_0_5 hx hb hown E hM hk_0 kw_463 dX7_countLoops_22 ?_
  refine gg_34_4 hx hb hown E hM hk_34 kw_376 dX7_countLoops_25 ?_
  refine lv_aload_n hx hb dX7_countLoops_28 rfl (lv_at hl 0 rfl) ?_
  refine gg_0_2 hx hb hown E hM hk_0 kw_460 dX7_countLoops_29 ?_
  refine gg_6_0 hx hb hown E hM hk_6 kw_235 dX7_countLoops_32 ?_
  refine gg_7_5 hx hb hown E hM hk_7 kw_216 dX7_countLoops_35 ?_
  refine lv_iconst (v := (-1 : Int32)) hx hb dX7_countLoops_38 (by decide) ?_
  refine lv_ixor hx hb dX7_countLoops_39 ?_
  refine lv_iand hx hb dX7_countLoops_40 ?_
  obtain ⟨q2, hq2, h⟩ := gbind_e h
  refine g_callS (As := [.int ((gi q1 34 4) &&& ((gi q1 7 5) ^^^ (-1 : Int32)))]) (rest := []) hx hb (hml.trans hl.1.symm) hown E hM hS hy_J6_bitCount_0f7a4 kw_715 (c_J6_bitCount_0f7a4 hq2) rfl rfl (Nat.le_of_ble_eq_true rfl) ⟨Nat.le_of_ble_eq_true rfl, Nat.le_of_ble_eq_true rfl⟩ ⟨Nat.le_of_ble_eq_true rfl, Nat.le_of_ble_eq_true rfl⟩ dX7_countLoops_41 (fun H locs hM hS => ?_)
  obtain rfl := Option.some.inj h
  exact g_iret hx hb hr hlocks hM hS dX7_countLoops_44
def f_X7_loopCount (μ : gM) : Option (Int32 × gM) :=
  Option.bind (f_X7_countLoops  μ) (fun q1 => some (q1.1, q1.2))
set_option maxHeartbeats 4000000 in
set_option maxRecDepth 100000 in
theorem c_X7_loopCount {l : Launch} {D : va_G} {cy : Nat → ClassId} {ad : Nat → Nat} {base : Nat}  {μ : gM} {RES : Int32 × gM} (h : f_X7_loopCount  μ = some RES) : Met l yX7_loopCount [.code yX7_loopCount cX7_loopCount 1 (some .int)] ({ frames := 4, cells := 0, slots := 0, locals := 94 } : Room) (va_Pc [.ref (ad 0)] (gB l gFull D cy ad base μ)) (gQ (some (.int RES.1)) gFull D cy ad base RES.2) 0 0 (gA base) := by
  refine Met.ofW (cc := cX7_loopCount) (maxL := 1) (ret := (some .int)) (by decide) rfl ?_
  intro p e s m args below meth c s₁ B hml0 hv
  obtain ⟨rfl, E, hM⟩ := hv
  have F : gF p s m meth c cX7_loopCount RX7 1 (some .int) := gF_of B hml0
  obtain ⟨hx, hb, hml, hown, hlocks, hr⟩ := id F
  have hS : va_S (gA base) s.heap s.heap [] := va_S.rf
  have hl := lv_entry ([.ref (ad 0)]) (n := 1) (Nat.le_of_ble_eq_true rfl)
  rw [lg_entry_eq]
  generalize (lg_sl ([.ref (ad 0)]) ++ List.replicate (1 - (lg_sl ([.ref (ad 0)])).length) Slot.unset).toArray = ls at hl ⊢
  have hl : lv_has ls 1 [(0, .ref (ad 0))] := hl
  unfold f_X7_loopCount at h
  refine lv_aload_n hx hb dX7_loopCount_0 rfl (lv_at hl 0 rfl) ?_
  obtain ⟨q1, hq1, h⟩ := gbind_e h
  refine g_callV (As := []) (rest := []) hx hb (hml.trans hl.1.symm) hown E hM hS hy_X7_countLoops kw_711 (c_X7_countLoops hq1) hk_0 dd_0 rfl rfl rfl (Nat.le_of_ble_eq_true rfl) ⟨Nat.le_of_ble_eq_true rfl, Nat.le_of_ble_eq_true rfl⟩ ⟨Nat.le_of_ble_eq_true rfl, Nat.le_of_ble_eq_true rfl⟩ dX7_loopCount_1 (fun H locs hM hS => ?_)
  obtain rfl := Option.some.inj h
  exact g_iret hx hb hr hlocks hM hS dX7_loopCount_4
def f_X7_needLoop (p1 : Int32) (μ : gM) : Option ((Option Unit) × gM) :=
  Option.bind (f_X2_find (gi μ 34 4) μ) (fun q1 => Option.bind (f_X7_needIndex p1 (gi q1 6 1) q1) (fun q2 => Option.elim q2 (some (none, q1)) (fun v3 => some (some (), q1))))
set_option maxHeartbeats 4000000 in
set_option maxRecDepth 100000 in
theorem c_X7_needLoop {l : Launch} {D : va_G} {cy : Nat → ClassId} {ad : Nat → Nat} {base : Nat} {p1 : Int32} {μ : gM} {RES : (Option Unit) × gM} (h : f_X7_needLoop p1 μ = some RES) : vx_Met l yX7_needLoop [.code yX7_needLoop cX7_needLoop 2 none] ({ frames := 7, cells := 1, slots := 6, locals := 120 } : Room) (va_Pc [.ref (ad 0), .int p1] (gB l gFull D cy ad base μ)) (gQo RES.1 (fun _ => none) gFull D cy ad base RES.2) (gX (RES.1 = none) gFull D cy ad base RES.2) 1 6 (gA base) := by
  refine vx_ofW (cc := cX7_needLoop) (maxL := 2) (ret := none) (by decide) rfl ?_
  intro p e s m args below meth c s₁ B hml0 hT hv
  obtain ⟨rfl, E, hM⟩ := hv
  have F : gF p s m meth c cX7_needLoop RX7 2 none := gF_of B hml0
  obtain ⟨hx, hb, hml, hown, hlocks, hr⟩ := id F
  have hS : va_S (gA base) s.heap s.heap [] := va_S.rf
  have hl := lv_entry ([.ref (ad 0), .int p1]) (n := 2) (Nat.le_of_ble_eq_true rfl)
  rw [lg_entry_eq]
  generalize (lg_sl ([.ref (ad 0), .int p1]) ++ List.replicate (2 - (lg_sl ([.ref (ad 0), .int p1])).length) Slot.unset).toArray = ls at hl ⊢
  have hl : lv_has ls 2 [(0, .ref (ad 0)), (1, .int p1)] := hl
  unfold f_X7_needLoop at h
  refine lv_aload_n hx hb dX7_needLoop_0 rfl (lv_at hl 0 rfl) ?_
  refine gg_0_2 hx hb hown E hM hk_0 kw_460 dX7_needLoop_1 ?_
  refine lv_aload_n hx hb dX7_needLoop_4 rfl (lv_at hl 0 rfl) ?_
  refine gg_0_5 hx hb hown E hM hk_0 kw_463 dX7_needLoop_5 ?_
  refine lv_aload_n hx hb dX7_needLoop_8 rfl (lv_at hl 0 rfl) ?_
  refine gg_0_5 hx hb hown E hM hk_0 kw_463 dX7_needLoop_9 ?_
  refine gg_34_4 hx hb hown E hM hk_34 kw_376 dX7_needLoop_12 ?_
  obtain ⟨q1, hq1, h⟩ := gbind_e h
  refine g_callV (As := [.ref (ad 34), .int (gi μ 34 4)]) (rest := []) hx hb (hml.trans hl.1.symm) hown E hM hS hy_X2_find kw_668 (c_X2_find hq1) hk_6 dd_6 rfl rfl rfl (Nat.le_of_ble_eq_true rfl) ⟨Nat.le_of_ble_eq_true rfl, Nat.le_of_ble_eq_true rfl⟩ ⟨Nat.le_of_ble_eq_true rfl, Nat.le_of_ble_eq_true rfl⟩ dX7_needLoop_15 (fun H locs hM hS => ?_)
  refine lv_iload_n hx hb dX7_needLoop_18 rfl (lv_at hl 1 rfl) ?_
  refine lv_aload_n hx hb dX7_needLoop_19 rfl (lv_at hl 0 rfl) ?_
  refine gg_0_2 hx hb hown E hM hk_0 kw_460 dX7_needLoop_20 ?_
  refine gg_6_1 hx hb hown E hM hk_6 kw_237 dX7_needLoop_23 ?_
  obtain ⟨q2, hq2, h⟩ := gbind_e h
  refine g_callXS (As := [.int p1, .int (gi q1 6 1)]) (rest := []) hx hb (hml.trans hl.1.symm) hown E hM hS hy_X7_needIndex kw_935 (c_X7_needIndex hq2) rfl rfl (Nat.le_of_ble_eq_true rfl) ⟨Nat.le_of_ble_eq_true rfl, Nat.le_of_ble_eq_true rfl⟩ ⟨Nat.le_of_ble_eq_true rfl, Nat.le_of_ble_eq_true rfl⟩ dX7_needLoop_26 (fun e4 q9 ce H locs hM hS hce hcv hcl => ?_) (fun v3 e4 H locs hM hS => ?_)
  · replace h := gel_n e4 h
    obtain rfl := Option.some.inj h
    exact g_outX hT hlocks rfl hM hS hce hcv hcl (Nat.le_of_ble_eq_true rfl) (Nat.le_of_ble_eq_true rfl)
  · replace h := gel_s e4 h
    obtain rfl := Option.some.inj h
    exact g_retX rfl (Nat.le_of_ble_eq_true rfl) (Nat.le_of_ble_eq_true rfl) (g_vret hx hb hr hlocks hM hS dX7_needLoop_29)
def f_X7_loopLine (p1 : Int32) (p2 : Int32) (μ : gM) : Option ((Option Int32) × gM) :=
  Option.bind (f_X7_needLoop p1 μ) (fun q1 => Option.elim q1.1 (some (none, q1.2)) (fun v2 => gchk (gIn p1 20) (Option.bind (f_X2_walk (gi q1.2 13 p1.toNatClampNeg) q1.2) (fun q5 => Option.bind (f_X7_isIndex p2 (gi q5 6 8) q5) (fun q6 => if ((b2i q6) = 0) then some ((some (-1 : Int32)), q5) else gchk (gIn p2 17) (some ((some (gi q5 18 p2.toNatClampNeg)), q5)))))))
set_option maxHeartbeats 4000000 in
set_option maxRecDepth 100000 in
theorem c_X7_loopLine {l : Launch} {D : va_G} {cy : Nat → ClassId} {ad : Nat → Nat} {base : Nat} {p1 : Int32} {p2 : Int32} {μ : gM} {RES : (Option Int32) × gM} (h : f_X7_loopLine p1 p2 μ = some RES) : vx_Met l yX7_loopLine [.code yX7_loopLine cX7_loopLine 3 (some .int)] ({ frames := 8, cells := 1, slots := 6, locals := 141 } : Room) (va_Pc [.ref (ad 0), .int p1, .int p2] (gB l gFull D cy ad base μ)) (gQo RES.1 (fun v => some (.int v)) gFull D cy ad base RES.2) (gX (RES.1 = none) gFull D cy ad base RES.2) 1 6 (gA base) := by
  refine vx_ofW (cc := cX7_loopLine) (maxL := 3) (ret := (some .int)) (by decide) rfl ?_
  intro p e s m args below meth c s₁ B hml0 hT hv
  obtain ⟨rfl, E, hM⟩ := hv
  have F : gF p s m meth c cX7_loopLine RX7 3 (some .int) := gF_of B hml0
  obtain ⟨hx, hb, hml, hown, hlocks, hr⟩ := id F
  have hS : va_S (gA base) s.heap s.heap [] := va_S.rf
  have hl := lv_entry ([.ref (ad 0), .int p1, .int p2]) (n := 3) (Nat.le_of_ble_eq_true rfl)
  rw [lg_entry_eq]
  generalize (lg_sl ([.ref (ad 0), .int p1, .int p2]) ++ List.replicate (3 - (lg_sl ([.ref (ad 0), .int p1, .int p2])).length) Slot.unset).toArray = ls at hl ⊢
  have hl : lv_has ls 3 [(0, .ref (ad 0)), (1, .int p1), (2, .int p2)] := hl
  unfold f_X7_loopLine at h
  refine lv_aload_n hx hb dX7_loopLine_0 rfl (lv_at hl 0 rfl) ?_
  refine lv_iload_n hx hb dX7_loopLine_1 rfl (lv_at hl 1 rfl) ?_
  obtain ⟨q1, hq1, h⟩ := gbind_e h
  refine g_callXV (As := [.int p1]) (rest := []) hx hb (hml.trans hl.1.symm) hown E hM hS hy_X7_needLoop kw_1172 (c_X7_needLoop hq1) hk_0 dd_0 rfl rfl rfl (Nat.le_of_ble_eq_true rfl) ⟨Nat.le_of_ble_eq_true rfl, Nat.le_of_ble_eq_true rfl⟩ ⟨Nat.le_of_ble_eq_true rfl, Nat.le_of_ble_eq_true rfl⟩ dX7_loopLine_2 (fun e3 q9 ce H locs hM hS hce hcv hcl => ?_) (fun v2 e3 H locs hM hS => ?_)
  · replace h := gel_n e3 h
    obtain rfl := Option.some.inj h
    exact g_outX hT hlocks rfl hM hS hce hcv hcl (Nat.le_of_ble_eq_true rfl) (Nat.le_of_ble_eq_true rfl)
  · replace h := gel_s e3 h
    refine lv_aload_n hx hb dX7_loopLine_5 rfl (lv_at hl 0 rfl) ?_
    refine gg_0_2 hx hb hown E hM hk_0 kw_460 dX7_loopLine_6 ?_
    refine lv_aload_n hx hb dX7_loopLine_9 rfl (lv_at hl 0 rfl) ?_
    refine gg_0_5 hx hb hown E hM hk_0 kw_463 dX7_loopLine_10 ?_
    refine lv_aload_n hx hb dX7_loopLine_13 rfl (lv_at hl 0 rfl) ?_
    refine gg_0_2 hx hb hown E hM hk_0 kw_460 dX7_loopLine_14 ?_
    refine gg_6_2 hx hb hown E hM hk_6 kw_239 dX7_loopLine_17 ?_
    refine lv_iload_n hx hb dX7_loopLine_20 rfl (lv_at hl 1 rfl) ?_
    obtain ⟨c4, h⟩ := gchk_e h
    refine g_iald hx hb E hM hk_13 dd_13 c4 dX7_loopLine_21 ?_
    obtain ⟨q5, hq5, h⟩ := gbind_e h
    refine g_callV (As := [.ref (ad 34), .int (gi q1.2 13 p1.toNatClampNeg)]) (rest := []) hx hb (hml.trans hl.1.symm) hown E hM hS hy_X2_walk kw_1176 (c_X2_walk hq5) hk_6 dd_6 rfl rfl rfl (Nat.le_of_ble_eq_true rfl) ⟨Nat.le_of_ble_eq_true rfl, Nat.le_of_ble_eq_true rfl⟩ ⟨Nat.le_of_ble_eq_true rfl, Nat.le_of_ble_eq_true rfl⟩ dX7_loopLine_22 (fun H locs hM hS => ?_)
    refine lv_iload_n hx hb dX7_loopLine_25 rfl (lv_at hl 2 rfl) ?_
    refine lv_aload_n hx hb dX7_loopLine_26 rfl (lv_at hl 0 rfl) ?_
    refine gg_0_2 hx hb hown E hM hk_0 kw_460 dX7_loopLine_27 ?_
    refine gg_6_8 hx hb hown E hM hk_6 kw_251 dX7_loopLine_30 ?_
    obtain ⟨q6, hq6, h⟩ := gbind_e h
    refine g_callS (As := [.int p2, .int (gi q5 6 8)]) (rest := []) hx hb (hml.trans hl.1.symm) hown E hM hS hy_X7_isIndex kw_645 (c_X7_isIndex hq6) rfl rfl (Nat.le_of_ble_eq_true rfl) ⟨Nat.le_of_ble_eq_true rfl, Nat.le_of_ble_eq_true rfl⟩ ⟨Nat.le_of_ble_eq_true rfl, Nat.le_of_ble_eq_true rfl⟩ dX7_loopLine_33 (fun H locs hM hS => ?_)
    refine lv_if_ne (tgt := 41) hx hb dX7_loopLine_36 (by decide) (fun c7 => ?_) (fun c7 => ?_)
    · replace h := gif_f c7 h
      refine lv_aload_n hx hb dX7_loopLine_41 rfl (lv_at hl 0 rfl) ?_
      refine gg_0_2 hx hb hown E hM hk_0 kw_460 dX7_loopLine_42 ?_
      refine gg_6_7 hx hb hown E hM hk_6 kw_249 dX7_loopLine_45 ?_
      refine lv_iload_n hx hb dX7_loopLine_48 rfl (lv_at hl 2 rfl) ?_
      obtain ⟨c8, h⟩ := gchk_e h
      refine g_iald hx hb E hM hk_18 dd_18 c8 dX7_loopLine_49 ?_
      obtain rfl := Option.some.inj h
      exact g_retX rfl (Nat.le_of_ble_eq_true rfl) (Nat.le_of_ble_eq_true rfl) (g_iret hx hb hr hlocks hM hS dX7_loopLine_50)
    · replace h := gif_t c7 h
      refine lv_iconst (v := (-1 : Int32)) hx hb dX7_loopLine_39 (by decide) ?_
      obtain rfl := Option.some.inj h
      exact g_retX rfl (Nat.le_of_ble_eq_true rfl) (Nat.le_of_ble_eq_true rfl) (g_iret hx hb hr hlocks hM hS dX7_loopLine_40)
def f_X7_loopLength (p1 : Int32) (μ : gM) : Option ((Option Int32) × gM) :=
  Option.bind (f_X7_needLoop p1 μ) (fun q1 => Option.elim q1.1 (some (none, q1.2)) (fun v2 => gchk (gIn p1 20) (some ((some (gi q1.2 15 p1.toNatClampNeg)), q1.2))))
set_option maxHeartbeats 4000000 in
set_option maxRecDepth 100000 in
theorem c_X7_loopLength {l : Launch} {D : va_G} {cy : Nat → ClassId} {ad : Nat → Nat} {base : Nat} {p1 : Int32} {μ : gM} {RES : (Option Int32) × gM} (h : f_X7_loopLength p1 μ = some RES) : vx_Met l yX7_loopLength [.code yX7_loopLength cX7_loopLength 2 (some .int)] ({ frames := 8, cells := 1, slots := 6, locals := 141 } : Room) (va_Pc [.ref (ad 0), .int p1] (gB l gFull D cy ad base μ)) (gQo RES.1 (fun v => some (.int v)) gFull D cy ad base RES.2) (gX (RES.1 = none) gFull D cy ad base RES.2) 1 6 (gA base) := by
  refine vx_ofW (cc := cX7_loopLength) (maxL := 2) (ret := (some .int)) (by decide) rfl ?_
  intro p e s m args below meth c s₁ B hml0 hT hv
  obtain ⟨rfl, E, hM⟩ := hv
  have F : gF p s m meth c cX7_loopLength RX7 2 (some .int) := gF_of B hml0
  obtain ⟨hx, hb, hml, hown, hlocks, hr⟩ := id F
  have hS : va_S (gA base) s.heap s.heap [] := va_S.rf
  have hl := lv_entry ([.ref (ad 0), .int p1]) (n := 2) (Nat.le_of_ble_eq_true rfl)
  rw [lg_entry_eq]
  generalize (lg_sl ([.ref (ad 0), .int p1]) ++ List.replicate (2 - (lg_sl ([.ref (ad 0), .int p1])).length) Slot.unset).toArray = ls at hl ⊢
  have hl : lv_has ls 2 [(0, .ref (ad 0)), (1, .int p1)] := hl
  unfold f_X7_loopLength at h
  refine lv_aload_n hx hb dX7_loopLength_0 rfl (lv_at hl 0 rfl) ?_
  refine lv_iload_n hx hb dX7_loopLength_1 rfl (lv_at hl 1 rfl) ?_
  obtain ⟨q1, hq1, h⟩ := gbind_e h
  refine g_callXV (As := [.int p1]) (rest := []) hx hb (hml.trans hl.1.symm) hown E hM hS hy_X7_needLoop kw_1172 (c_X7_needLoop hq1) hk_0 dd_0 rfl rfl rfl (Nat.le_of_ble_eq_true rfl) ⟨Nat.le_of_ble_eq_true rfl, Nat.le_of_ble_eq_true rfl⟩ ⟨Nat.le_of_ble_eq_true rfl, Nat.le_of_ble_eq_true rfl⟩ dX7_loopLength_2 (fun e3 q9 ce H locs hM hS hce hcv hcl => ?_) (fun v2 e3 H locs hM hS => ?_)
  · replace h := gel_n e3 h
    obtain rfl := Option.some.inj h
    exact g_outX hT hlocks rfl hM hS hce hcv hcl (Nat.le_of_ble_eq_true rfl) (Nat.le_of_ble_eq_true rfl)
  · replace h := gel_s e3 h
    refine lv_aload_n hx hb dX7_loopLength_5 rfl (lv_at hl 0 rfl) ?_
    refine gg_0_2 hx hb hown E hM hk_0 kw_460 dX7_loopLength_6 ?_
    refine gg_6_4 hx hb hown E hM hk_6 kw_243 dX7_loopLength_9 ?_
    refine lv_iload_n hx hb dX7_loopLength_12 rfl (lv_at hl 1 rfl) ?_
    obtain ⟨c4, h⟩ := gchk_e h
    refine g_iald hx hb E hM hk_15 dd_15 c4 dX7_loopLength_13 ?_
    obtain rfl := Option.some.inj h
    exact g_retX rfl (Nat.le_of_ble_eq_true rfl) (Nat.le_of_ble_eq_true rfl) (g_iret hx hb hr hlocks hM hS dX7_loopLength_14)
def f_X7_misclosure (p1 : Int32) (μ : gM) : Option ((Option Int32) × gM) :=
  Option.bind (f_X7_needLoop p1 μ) (fun q1 => Option.elim q1.1 (some (none, q1.2)) (fun v2 => gchk (gIn p1 20) (some ((some (gi q1.2 16 p1.toNatClampNeg)), q1.2))))
set_option maxHeartbeats 4000000 in
set_option maxRecDepth 100000 in
theorem c_X7_misclosure {l : Launch} {D : va_G} {cy : Nat → ClassId} {ad : Nat → Nat} {base : Nat} {p1 : Int32} {μ : gM} {RES : (Option Int32) × gM} (h : f_X7_misclosure p1 μ = some RES) : vx_Met l yX7_misclosure [.code yX7_misclosure cX7_misclosure 2 (some .int)] ({ frames := 8, cells := 1, slots := 6, locals := 141 } : Room) (va_Pc [.ref (ad 0), .int p1] (gB l gFull D cy ad base μ)) (gQo RES.1 (fun v => some (.int v)) gFull D cy ad base RES.2) (gX (RES.1 = none) gFull D cy ad base RES.2) 1 6 (gA base) := by
  refine vx_ofW (cc := cX7_misclosure) (maxL := 2) (ret := (some .int)) (by decide) rfl ?_
  intro p e s m args below meth c s₁ B hml0 hT hv
  obtain ⟨rfl, E, hM⟩ := hv
  have F : gF p s m meth c cX7_misclosure RX7 2 (some .int) := gF_of B hml0
  obtain ⟨hx, hb, hml, hown, hlocks, hr⟩ := id F
  have hS : va_S (gA base) s.heap s.heap [] := va_S.rf
  have hl := lv_entry ([.ref (ad 0), .int p1]) (n := 2) (Nat.le_of_ble_eq_true rfl)
  rw [lg_entry_eq]
  generalize (lg_sl ([.ref (ad 0), .int p1]) ++ List.replicate (2 - (lg_sl ([.ref (ad 0), .int p1])).length) Slot.unset).toArray = ls at hl ⊢
  have hl : lv_has ls 2 [(0, .ref (ad 0)), (1, .int p1)] := hl
  unfold f_X7_misclosure at h
  refine lv_aload_n hx hb dX7_misclosure_0 rfl (lv_at hl 0 rfl) ?_
  refine lv_iload_n hx hb dX7_misclosure_1 rfl (lv_at hl 1 rfl) ?_
  obtain ⟨q1, hq1, h⟩ := gbind_e h
  refine g_callXV (As := [.int p1]) (rest := []) hx hb (hml.trans hl.1.symm) hown E hM hS hy_X7_needLoop kw_1172 (c_X7_needLoop hq1) hk_0 dd_0 rfl rfl rfl (Nat.le_of_ble_eq_true rfl) ⟨Nat.le_of_ble_eq_true rfl, Nat.le_of_ble_eq_true rfl⟩ ⟨Nat.le_of_ble_eq_true rfl, Nat.le_of_ble_eq_true rfl⟩ dX7_misclosure_2 (fun e3 q9 ce H locs hM hS hce hcv hcl => ?_) (fun v2 e3 H locs hM hS => ?_)
  · replace h := gel_n e3 h
    obtain rfl := Option.some.inj h
    exact g_outX hT hlocks rfl hM hS hce hcv hcl (Nat.le_of_ble_eq_true rfl) (Nat.le_of_ble_eq_true rfl)
  · replace h := gel_s e3 h
    refine lv_aload_n hx hb dX7_misclosure_5 rfl (lv_at hl 0 rfl) ?_
    refine gg_0_2 hx hb hown E hM hk_0 kw_460 dX7_misclosure_6 ?_
    refine gg_6_5 hx hb hown E hM hk_6 kw_245 dX7_misclosure_9 ?_
    refine lv_iload_n hx hb dX7_misclosure_12 rfl (lv_at hl 1 rfl) ?_
    obtain ⟨c4, h⟩ := gchk_e h
    refine g_iald hx hb E hM hk_16 dd_16 c4 dX7_misclosure_13 ?_
    obtain rfl := Option.some.inj h
    exact g_retX rfl (Nat.le_of_ble_eq_true rfl) (Nat.le_of_ble_eq_true rfl) (g_iret hx hb hr hlocks hM hS dX7_misclosure_14)
def f_X7_allowed (p1 : Int32) (μ : gM) : Option ((Option Int32) × gM) :=
  Option.bind (f_X7_needLoop p1 μ) (fun q1 => Option.elim q1.1 (some (none, q1.2)) (fun v2 => gchk (gIn p1 20) (some ((some (gi q1.2 17 p1.toNatClampNeg)), q1.2))))
set_option maxHeartbeats 4000000 in
set_option maxRecDepth 100000 in
theorem c_X7_allowed {l : Launch} {D : va_G} {cy : Nat → ClassId} {ad : Nat → Nat} {base : Nat} {p1 : Int32} {μ : gM} {RES : (Option Int32) × gM} (h : f_X7_allowed p1 μ = some RES) : vx_Met l yX7_allowed [.code yX7_allowed cX7_allowed 2 (some .int)] ({ frames := 8, cells := 1, slots := 6, locals := 141 } : Room) (va_Pc [.ref (ad 0), .int p1] (gB l gFull D cy ad base μ)) (gQo RES.1 (fun v => some (.int v)) gFull D cy ad base RES.2) (gX (RES.1 = none) gFull D cy ad base RES.2) 1 6 (gA base) := by
  refine vx_ofW (cc := cX7_allowed) (maxL := 2) (ret := (some .int)) (by decide) rfl ?_
  intro p e s m args below meth c s₁ B hml0 hT hv
  obtain ⟨rfl, E, hM⟩ := hv
  have F : gF p s m meth c cX7_allowed RX7 2 (some .int) := gF_of B hml0
  obtain ⟨hx, hb, hml, hown, hlocks, hr⟩ := id F
  have hS : va_S (gA base) s.heap s.heap [] := va_S.rf
  have hl := lv_entry ([.ref (ad 0), .int p1]) (n := 2) (Nat.le_of_ble_eq_true rfl)
  rw [lg_entry_eq]
  generalize (lg_sl ([.ref (ad 0), .int p1]) ++ List.replicate (2 - (lg_sl ([.ref (ad 0), .int p1])).length) Slot.unset).toArray = ls at hl ⊢
  have hl : lv_has ls 2 [(0, .ref (ad 0)), (1, .int p1)] := hl
  unfold f_X7_allowed at h
  refine lv_aload_n hx hb dX7_allowed_0 rfl (lv_at hl 0 rfl) ?_
  refine lv_iload_n hx hb dX7_allowed_1 rfl (lv_at hl 1 rfl) ?_
  obtain ⟨q1, hq1, h⟩ := gbind_e h
  refine g_callXV (As := [.int p1]) (rest := []) hx hb (hml.trans hl.1.symm) hown E hM hS hy_X7_needLoop kw_1172 (c_X7_needLoop hq1) hk_0 dd_0 rfl rfl rfl (Nat.le_of_ble_eq_true rfl) ⟨Nat.le_of_ble_eq_true rfl, Nat.le_of_ble_eq_true rfl⟩ ⟨Nat.le_of_ble_eq_true rfl, Nat.le_of_ble_eq_true rfl⟩ dX7_allowed_2 (fun e3 q9 ce H locs hM hS hce hcv hcl => ?_) (fun v2 e3 H locs hM hS => ?_)
  · replace h := gel_n e3 h
    obtain rfl := Option.some.inj h
    exact g_outX hT hlocks rfl hM hS hce hcv hcl (Nat.le_of_ble_eq_true rfl) (Nat.le_of_ble_eq_true rfl)
  · replace h := gel_s e3 h
    refine lv_aload_n hx hb dX7_allowed_5 rfl (lv_at hl 0 rfl) ?_
    refine gg_0_2 hx hb hown E hM hk_0 kw_460 dX7_allowed_6 ?_
    refine gg_6_6 hx hb hown E hM hk_6 kw_247 dX7_allowed_9 ?_
    refine lv_iload_n hx hb dX7_allowed_12 rfl (lv_at hl 1 rfl) ?_
    obtain ⟨c4, h⟩ := gchk_e h
    refine g_iald hx hb E hM hk_17 dd_17 c4 dX7_allowed_13 ?_
    obtain rfl := Option.some.inj h
    exact g_retX rfl (Nat.le_of_ble_eq_true rfl) (Nat.le_of_ble_eq_true rfl) (g_iret hx hb hr hlocks hM hS dX7_allowed_14)
def f_X7_badLoops (μ : gM) : Option (Int32 × gM) :=
  Option.bind (f_X2_find (gi μ 34 4) μ) (fun q1 => Option.bind (f_X2_badSet  q1) (fun q2 => some (q2, q1)))
set_option maxHeartbeats 4000000 in
set_option maxRecDepth 100000 in
theorem c_X7_badLoops {l : Launch} {D : va_G} {cy : Nat → ClassId} {ad : Nat → Nat} {base : Nat}  {μ : gM} {RES : Int32 × gM} (h : f_X7_badLoops  μ = some RES) : Met l yX7_badLoops [.code yX7_badLoops cX7_badLoops 1 (some .int)] ({ frames := 5, cells := 0, slots := 0, locals := 120 } : Room) (va_Pc [.ref (ad 0)] (gB l gFull D cy ad base μ)) (gQ (some (.int RES.1)) gFull D cy ad base RES.2) 0 0 (gA base) := by
  refine Met.ofW (cc := cX7_badLoops) (maxL := 1) (ret := (some .int)) (by decide) rfl ?_
  intro p e s m args below meth c s₁ B hml0 hv
  obtain ⟨rfl, E, hM⟩ := hv
  have F : gF p s m meth c cX7_badLoops RX7 1 (some .int) := gF_of B hml0
  obtain ⟨hx, hb, hml, hown, hlocks, hr⟩ := id F
  have hS : va_S (gA base) s.heap s.heap [] := va_S.rf
  have hl := lv_entry ([.ref (ad 0)]) (n := 1) (Nat.le_of_ble_eq_true rfl)
  rw [lg_entry_eq]
  generalize (lg_sl ([.ref (ad 0)]) ++ List.replicate (1 - (lg_sl ([.ref (ad 0)])).length) Slot.unset).toArray = ls at hl ⊢
  have hl : lv_has ls 1 [(0, .ref (ad 0))] := hl
  unfold f_X7_badLoops at h
  refine lv_aload_n hx hb dX7_badLoops_0 rfl (lv_at hl 0 rfl) ?_
  refine gg_0_2 hx hb hown E hM hk_0 kw_460 dX7_badLoops_1 ?_
  refine lv_aload_n hx hb dX7_badLoops_4 rfl (lv_at hl 0 rfl) ?_
  refine gg_0_5 hx hb hown E hM hk_0 kw_463 dX7_badLoops_5 ?_
  refine lv_aload_n hx hb dX7_badLoops_8 rfl (lv_at hl 0 rfl) ?_
  refine gg_0_5 hx hb hown E hM hk_0 kw_463 dX7_badLoops_9 ?_
  refine gg_34_4 hx hb hown E hM hk_34 kw_376 dX7_badLoops_12 ?_
  obtain ⟨q1, hq1, h⟩ := gbind_e h
  refine g_callV (As := [.ref (ad 34), .int (gi μ 34 4)]) (rest := []) hx hb (hml.trans hl.1.symm) hown E hM hS hy_X2_find kw_668 (c_X2_find hq1) hk_6 dd_6 rfl rfl rfl (Nat.le_of_ble_eq_true rfl) ⟨Nat.le_of_ble_eq_true rfl, Nat.le_of_ble_eq_true rfl⟩ ⟨Nat.le_of_ble_eq_true rfl, Nat.le_of_ble_eq_true rfl⟩ dX7_badLoops_15 (fun H locs hM hS => ?_)
  refine lv_aload_n hx hb dX7_badLoops_18 rfl (lv_at hl 0 rfl) ?_
  refine gg_0_2 hx hb hown E hM hk_0 kw_460 dX7_badLoops_19 ?_
  obtain ⟨q2, hq2, h⟩ := gbind_e h
  refine g_callV (As := []) (rest := []) hx hb (hml.trans hl.1.symm) hown E hM hS hy_X2_badSet kw_725 (c_X2_badSet hq2) hk_6 dd_6 rfl rfl rfl (Nat.le_of_ble_eq_true rfl) ⟨Nat.le_of_ble_eq_true rfl, Nat.le_of_ble_eq_true rfl⟩ ⟨Nat.le_of_ble_eq_true rfl, Nat.le_of_ble_eq_true rfl⟩ dX7_badLoops_22 (fun H locs hM hS => ?_)
  obtain rfl := Option.some.inj h
  exact g_iret hx hb hr hlocks hM hS dX7_badLoops_25
def b_X7_worstLoop_24 (x1 : Int32) (x2 : Int32) (x3 : Int32) (μ : gM) : Option ((Int32 × Int32 × Int32) ⊕ (Int32)) :=
  if ((gi μ 6 1) ≤ x3) then some (.inr x1) else Option.bind (f_X2_excess x3 μ) (fun q3 => if (q3 ≤ x2) then some (.inl (x1, x2, (x3 + (1 : Int32)))) else Option.bind (f_X2_excess x3 μ) (fun q5 => some (.inl (x3, q5, (x3 + (1 : Int32))))))
set_option maxHeartbeats 4000000 in
set_option maxRecDepth 100000 in
theorem wb_X7_worstLoop_24 {p : Program} {l : Launch} {e : Env} {s : State} {m : MethodId} {args : Array Value} {below : List Frame} {meth : Method} {c : Code} {D : va_G} {cy : Nat → ClassId} {ad : Nat → Nat} {base : Nat} {x1 : Int32} {x2 : Int32} {x3 : Int32} {μ : gM} {o : (Int32 × Int32 × Int32) ⊕ (Int32)} {RES : Int32 × gM} (h : b_X7_worstLoop_24 x1 x2 x3 μ = some o) (F : gF p s m meth c cX7_worstLoop RX7 4 (some .int)) (E : gEnv l D cy ad base s) (kc : ∀ (t : Int32 × Int32 × Int32) {H : Heap} {locs : List Loc} {ls : Array Slot}, o = .inl t → gW gFull D cy ad base μ H → va_S (gA base) s.heap H locs → lv_has ls 4 [(0, .ref (ad 0)), (1, .int t.1), (2, .int t.2.1), (3, .int t.2.2)] → W p l e ({ frames := 5, cells := 0, slots := 0, locals := 120 } : Room) s m args below meth c H locs 0 0 (MQ below (gQ (some (.int RES.1)) gFull D cy ad base RES.2) args s 0 0 (gA base)) (F0 m 24 ls [])) (kx : ∀ (t : Int32) {H : Heap} {locs : List Loc} {ls : Array Slot}, o = .inr t → gW gFull D cy ad base μ H → va_S (gA base) s.heap H locs → lv_has ls 4 [(1, .int t)] → W p l e ({ frames := 5, cells := 0, slots := 0, locals := 120 } : Room) s m args below meth c H locs 0 0 (MQ below (gQ (some (.int RES.1)) gFull D cy ad base RES.2) args s 0 0 (gA base)) (F0 m 64 ls []))  {H : Heap} {locs : List Loc} {ls : Array Slot} (hM : gW gFull D cy ad base μ H) (hS : va_S (gA base) s.heap H locs) (hl : lv_has ls 4 [(0, .ref (ad 0)), (1, .int x1), (2, .int x2), (3, .int x3)]) : W p l e ({ frames := 5, cells := 0, slots := 0, locals := 120 } : Room) s m args below meth c H locs 0 0 (MQ below (gQ (some (.int RES.1)) gFull D cy ad base RES.2) args s 0 0 (gA base)) (F0 m 24 ls []) := by
  obtain ⟨hx, hb, hml, hown, hlocks, hr⟩ := id F
  unfold b_X7_worstLoop_24 at h
  refine lv_iload_n hx hb dX7_worstLoop_24 rfl (lv_at hl 3 rfl) ?_
  refine lv_aload_n hx hb dX7_worstLoop_25 rfl (lv_at hl 0 rfl) ?_
  refine gg_0_2 hx hb hown E hM hk_0 kw_460 dX7_worstLoop_26 ?_
  refine gg_6_1 hx hb hown E hM hk_6 kw_237 dX7_worstLoop_29 ?_
  refine lv_icmp_ge (tgt := 64) hx hb dX7_worstLoop_32 (by decide) (fun c2 => ?_) (fun c2 => ?_)
  · replace h := gif_t c2 h
    exact kx _ (Option.some.inj h).symm hM hS (lv_sub hl [1] rfl)
  · replace h := gif_f c2 h
    refine lv_aload_n hx hb dX7_worstLoop_35 rfl (lv_at hl 0 rfl) ?_
    refine gg_0_2 hx hb hown E hM hk_0 kw_460 dX7_worstLoop_36 ?_
    refine lv_iload_n hx hb dX7_worstLoop_39 rfl (lv_at hl 3 rfl) ?_
    obtain ⟨q3, hq3, h⟩ := gbind_e h
    refine g_callV (As := [.int x3]) (rest := []) hx hb (hml.trans hl.1.symm) hown E hM hS hy_X2_excess kw_740 (c_X2_excess hq3) hk_6 dd_6 rfl rfl rfl (Nat.le_of_ble_eq_true rfl) ⟨Nat.le_of_ble_eq_true rfl, Nat.le_of_ble_eq_true rfl⟩ ⟨Nat.le_of_ble_eq_true rfl, Nat.le_of_ble_eq_true rfl⟩ dX7_worstLoop_40 (fun H locs hM hS => ?_)
    refine lv_iload_n hx hb dX7_worstLoop_43 rfl (lv_at hl 2 rfl) ?_
    refine lv_icmp_le (tgt := 58) hx hb dX7_worstLoop_44 (by decide) (fun c4 => ?_) (fun c4 => ?_)
    · replace h := gif_t c4 h
      refine lv_iinc (v := (x3 + (1 : Int32))) (lv' := [(3, .int (x3 + (1 : Int32))), (0, .ref (ad 0)), (1, .int x1), (2, .int x2)]) hx hb dX7_worstLoop_58 hl (k := 3) rfl rfl (by decide) rfl (fun ls hl => ?_)
      refine lv_goto (tgt := 24) hx hb dX7_worstLoop_61 (by decide) ?_
      exact kc _ (Option.some.inj h).symm hM hS (lv_sub hl [1, 2, 3, 0] rfl)
    · replace h := gif_f c4 h
      refine lv_aload_n hx hb dX7_worstLoop_47 rfl (lv_at hl 0 rfl) ?_
      refine gg_0_2 hx hb hown E hM hk_0 kw_460 dX7_worstLoop_48 ?_
      refine lv_iload_n hx hb dX7_worstLoop_51 rfl (lv_at hl 3 rfl) ?_
      obtain ⟨q5, hq5, h⟩ := gbind_e h
      refine g_callV (As := [.int x3]) (rest := []) hx hb (hml.trans hl.1.symm) hown E hM hS hy_X2_excess kw_740 (c_X2_excess hq5) hk_6 dd_6 rfl rfl rfl (Nat.le_of_ble_eq_true rfl) ⟨Nat.le_of_ble_eq_true rfl, Nat.le_of_ble_eq_true rfl⟩ ⟨Nat.le_of_ble_eq_true rfl, Nat.le_of_ble_eq_true rfl⟩ dX7_worstLoop_52 (fun H locs hM hS => ?_)
      refine lv_istore_n (lv' := [(2, .int q5), (0, .ref (ad 0)), (1, .int x1), (3, .int x3)]) hx hb dX7_worstLoop_55 rfl hl (by decide) rfl (fun ls hl => ?_)
      refine lv_iload_n hx hb dX7_worstLoop_56 rfl (lv_at hl 3 rfl) ?_
      refine lv_istore_n (lv' := [(1, .int x3), (2, .int q5), (0, .ref (ad 0)), (3, .int x3)]) hx hb dX7_worstLoop_57 rfl hl (by decide) rfl (fun ls hl => ?_)
      refine lv_iinc (v := (x3 + (1 : Int32))) (lv' := [(3, .int (x3 + (1 : Int32))), (1, .int x3), (2, .int q5), (0, .ref (ad 0))]) hx hb dX7_worstLoop_58 hl (k := 3) rfl rfl (by decide) rfl (fun ls hl => ?_)
      refine lv_goto (tgt := 24) hx hb dX7_worstLoop_61 (by decide) ?_
      exact kc _ (Option.some.inj h).symm hM hS (lv_sub hl [3, 1, 2, 0] rfl)
set_option maxHeartbeats 4000000 in
theorem wl_X7_worstLoop_24 {p : Program} {l : Launch} {e : Env} {s : State} {m : MethodId} {args : Array Value} {below : List Frame} {meth : Method} {c : Code} {D : va_G} {cy : Nat → ClassId} {ad : Nat → Nat} {base : Nat}  {μ : gM} {r : Int32} {RES : Int32 × gM} (F : gF p s m meth c cX7_worstLoop RX7 4 (some .int)) (E : gEnv l D cy ad base s) (kx : ∀ (t : Int32) {H : Heap} {locs : List Loc} {ls : Array Slot}, r = t → gW gFull D cy ad base μ H → va_S (gA base) s.heap H locs → lv_has ls 4 [(1, .int t)] → W p l e ({ frames := 5, cells := 0, slots := 0, locals := 120 } : Room) s m args below meth c H locs 0 0 (MQ below (gQ (some (.int RES.1)) gFull D cy ad base RES.2) args s 0 0 (gA base)) (F0 m 64 ls []))  : ∀ (n : Nat) (x1 : Int32) (x2 : Int32) (x3 : Int32), gloop (fun t => b_X7_worstLoop_24  t.1 t.2.1 t.2.2 μ) n (x1, x2, x3) = some r → ∀ {H : Heap} {locs : List Loc} {ls : Array Slot}, gW gFull D cy ad base μ H → va_S (gA base) s.heap H locs → lv_has ls 4 [(0, .ref (ad 0)), (1, .int x1), (2, .int x2), (3, .int x3)] → W p l e ({ frames := 5, cells := 0, slots := 0, locals := 120 } : Room) s m args below meth c H locs 0 0 (MQ below (gQ (some (.int RES.1)) gFull D cy ad base RES.2) args s 0 0 (gA base)) (F0 m 24 ls []) := by
  intro n
  induction n with
  | zero =>
    intro x1 x2 x3 h
    exact (gloop_0 h).elim
  | succ n ih =>
    intro x1 x2 x3 h H locs ls hM hS hl
    obtain ⟨o, h0, hc, hq⟩ := gloop_s h
    have h1 : b_X7_worstLoop_24 x1 x2 x3 μ = some o := h0
    exact wb_X7_worstLoop_24 h1 F E (fun t H locs ls ho hM hS hl => ih t.1 t.2.1 t.2.2 (hc t ho) hM hS hl) (fun t H locs ls ho hM hS hl => kx t (hq _ ho).symm hM hS hl) hM hS hl
def f_X7_worstLoop (μ : gM) : Option (Int32 × gM) :=
  Option.bind (f_X2_find (gi μ 34 4) μ) (fun q1 => Option.bind (gloop (fun t => b_X7_worstLoop_24  t.1 t.2.1 t.2.2 q1) gFuel ((-1 : Int32), (0 : Int32), (0 : Int32))) (fun q6 => some (q6, q1)))
set_option maxHeartbeats 4000000 in
set_option maxRecDepth 100000 in
theorem c_X7_worstLoop {l : Launch} {D : va_G} {cy : Nat → ClassId} {ad : Nat → Nat} {base : Nat}  {μ : gM} {RES : Int32 × gM} (h : f_X7_worstLoop  μ = some RES) : Met l yX7_worstLoop [.code yX7_worstLoop cX7_worstLoop 4 (some .int)] ({ frames := 5, cells := 0, slots := 0, locals := 120 } : Room) (va_Pc [.ref (ad 0)] (gB l gFull D cy ad base μ)) (gQ (some (.int RES.1)) gFull D cy ad base RES.2) 0 0 (gA base) := by
  refine Met.ofW (cc := cX7_worstLoop) (maxL := 4) (ret := (some .int)) (by decide) rfl ?_
  intro p e s m args below meth c s₁ B hml0 hv
  obtain ⟨rfl, E, hM⟩ := hv
  have F : gF p s m meth c cX7_worstLoop RX7 4 (some .int) := gF_of B hml0
  obtain ⟨hx, hb, hml, hown, hlocks, hr⟩ := id F
  have hS : va_S (gA base) s.heap s.heap [] := va_S.rf
  have hl := lv_entry ([.ref (ad 0)]) (n := 4) (Nat.le_of_ble_eq_true rfl)
  rw [lg_entry_eq]
  generalize (lg_sl ([.ref (ad 0)]) ++ List.replicate (4 - (lg_sl ([.ref (ad 0)])).length) Slot.unset).toArray = ls at hl ⊢
  have hl : lv_has ls 4 [(0, .ref (ad 0))] := hl
  unfold f_X7_worstLoop at h
  refine lv_aload_n hx hb dX7_worstLoop_0 rfl (lv_at hl 0 rfl) ?_
  refine gg_0_2 hx hb hown E hM hk_0 kw_460 dX7_worstLoop_1 ?_
  refine lv_aload_n hx hb dX7_worstLoop_4 rfl (lv_at hl 0 rfl) ?_
  refine gg_0_5 hx hb hown E hM hk_0 kw_463 dX7_worstLoop_5 ?_
  refine lv_aload_n hx hb dX7_worstLoop_8 rfl (lv_at hl 0 rfl) ?_
  refine gg_0_5 hx hb hown E hM hk_0 kw_463 dX7_worstLoop_9 ?_
  refine gg_34_4 hx hb hown E hM hk_34 kw_376 dX7_worstLoop_12 ?_
  obtain ⟨q1, hq1, h⟩ := gbind_e h
  refine g_callV (As := [.ref (ad 34), .int (gi μ 34 4)]) (rest := []) hx hb (hml.trans hl.1.symm) hown E hM hS hy_X2_find kw_668 (c_X2_find hq1) hk_6 dd_6 rfl rfl rfl (Nat.le_of_ble_eq_true rfl) ⟨Nat.le_of_ble_eq_true rfl, Nat.le_of_ble_eq_true rfl⟩ ⟨Nat.le_of_ble_eq_true rfl, Nat.le_of_ble_eq_true rfl⟩ dX7_worstLoop_15 (fun H locs hM hS => ?_)
  refine lv_iconst (v := (-1 : Int32)) hx hb dX7_worstLoop_18 (by decide) ?_
  refine lv_istore_n (lv' := [(1, .int (-1 : Int32)), (0, .ref (ad 0))]) hx hb dX7_worstLoop_19 rfl hl (by decide) rfl (fun ls hl => ?_)
  refine lv_iconst (v := (0 : Int32)) hx hb dX7_worstLoop_20 (by decide) ?_
  refine lv_istore_n (lv' := [(2, .int (0 : Int32)), (1, .int (-1 : Int32)), (0, .ref (ad 0))]) hx hb dX7_worstLoop_21 rfl hl (by decide) rfl (fun ls hl => ?_)
  refine lv_iconst (v := (0 : Int32)) hx hb dX7_worstLoop_22 (by decide) ?_
  refine lv_istore_n (lv' := [(3, .int (0 : Int32)), (2, .int (0 : Int32)), (1, .int (-1 : Int32)), (0, .ref (ad 0))]) hx hb dX7_worstLoop_23 rfl hl (by decide) rfl (fun ls hl => ?_)
  obtain ⟨z7, h1, h⟩ := gbind_e h
  refine wl_X7_worstLoop_24 F E (r := z7) (fun q6 H locs ls e1 hM hS hl => ?_) gFuel (-1 : Int32) (0 : Int32) (0 : Int32) h1 hM hS (lv_sub hl [3, 2, 1, 0] rfl)
  replace e1 : z7 = q6 := e1
  rw [e1] at h
  refine lv_iload_n hx hb dX7_worstLoop_64 rfl (lv_at hl 0 rfl) ?_
  obtain rfl := Option.some.inj h
  exact g_iret hx hb hr hlocks hM hS dX7_worstLoop_65
def b_X7_suspectLine_24 (x1 : Int32) (x2 : Int32) (x3 : Int32) (μ : gM) : Option ((Int32 × Int32 × Int32) ⊕ (Int32)) :=
  if ((gi μ 34 2) ≤ x3) then some (.inr x1) else Option.bind (f_X2_badOnly x3 μ) (fun q3 => if (q3 ≤ x2) then some (.inl (x1, x2, (x3 + (1 : Int32)))) else some (.inl (x3, q3, (x3 + (1 : Int32)))))
set_option maxHeartbeats 4000000 in
set_option maxRecDepth 100000 in
theorem wb_X7_suspectLine_24 {p : Program} {l : Launch} {e : Env} {s : State} {m : MethodId} {args : Array Value} {below : List Frame} {meth : Method} {c : Code} {D : va_G} {cy : Nat → ClassId} {ad : Nat → Nat} {base : Nat} {x1 : Int32} {x2 : Int32} {x3 : Int32} {μ : gM} {o : (Int32 × Int32 × Int32) ⊕ (Int32)} {RES : Int32 × gM} (h : b_X7_suspectLine_24 x1 x2 x3 μ = some o) (F : gF p s m meth c cX7_suspectLine RX7 5 (some .int)) (E : gEnv l D cy ad base s) (kc : ∀ (t : Int32 × Int32 × Int32) {H : Heap} {locs : List Loc} {ls : Array Slot}, o = .inl t → gW gFull D cy ad base μ H → va_S (gA base) s.heap H locs → lv_has ls 5 [(0, .ref (ad 0)), (1, .int t.1), (2, .int t.2.1), (3, .int t.2.2)] → W p l e ({ frames := 5, cells := 0, slots := 0, locals := 120 } : Room) s m args below meth c H locs 0 0 (MQ below (gQ (some (.int RES.1)) gFull D cy ad base RES.2) args s 0 0 (gA base)) (F0 m 24 ls [])) (kx : ∀ (t : Int32) {H : Heap} {locs : List Loc} {ls : Array Slot}, o = .inr t → gW gFull D cy ad base μ H → va_S (gA base) s.heap H locs → lv_has ls 5 [(1, .int t)] → W p l e ({ frames := 5, cells := 0, slots := 0, locals := 120 } : Room) s m args below meth c H locs 0 0 (MQ below (gQ (some (.int RES.1)) gFull D cy ad base RES.2) args s 0 0 (gA base)) (F0 m 62 ls []))  {H : Heap} {locs : List Loc} {ls : Array Slot} (hM : gW gFull D cy ad base μ H) (hS : va_S (gA base) s.heap H locs) (hl : lv_has ls 5 [(0, .ref (ad 0)), (1, .int x1), (2, .int x2), (3, .int x3)]) : W p l e ({ frames := 5, cells := 0, slots := 0, locals := 120 } : Room) s m args below meth c H locs 0 0 (MQ below (gQ (some (.int RES.1)) gFull D cy ad base RES.2) args s 0 0 (gA base)) (F0 m 24 ls []) := by
  obtain ⟨hx, hb, hml, hown, hlocks, hr⟩ := id F
  unfold b_X7_suspectLine_24 at h
  refine lv_iload_n hx hb dX7_suspectLine_24 rfl (lv_at hl 3 rfl) ?_
  refine lv_aload_n hx hb dX7_suspectLine_25 rfl (lv_at hl 0 rfl) ?_
  refine gg_0_5 hx hb hown E hM hk_0 kw_463 dX7_suspectLine_26 ?_
  refine gg_34_2 hx hb hown E hM hk_34 kw_367 dX7_suspectLine_29 ?_
  refine lv_icmp_ge (tgt := 62) hx hb dX7_suspectLine_32 (by decide) (fun c2 => ?_) (fun c2 => ?_)
  · replace h := gif_t c2 h
    exact kx _ (Option.some.inj h).symm hM hS (lv_sub hl [1] rfl)
  · replace h := gif_f c2 h
    refine lv_aload_n hx hb dX7_suspectLine_35 rfl (lv_at hl 0 rfl) ?_
    refine gg_0_2 hx hb hown E hM hk_0 kw_460 dX7_suspectLine_36 ?_
    refine lv_iload_n hx hb dX7_suspectLine_39 rfl (lv_at hl 3 rfl) ?_
    obtain ⟨q3, hq3, h⟩ := gbind_e h
    refine g_callV (As := [.int x3]) (rest := []) hx hb (hml.trans hl.1.symm) hown E hM hS hy_X2_badOnly kw_745 (c_X2_badOnly hq3) hk_6 dd_6 rfl rfl rfl (Nat.le_of_ble_eq_true rfl) ⟨Nat.le_of_ble_eq_true rfl, Nat.le_of_ble_eq_true rfl⟩ ⟨Nat.le_of_ble_eq_true rfl, Nat.le_of_ble_eq_true rfl⟩ dX7_suspectLine_40 (fun H locs hM hS => ?_)
    refine lv_istore (lv' := [(4, .int q3), (0, .ref (ad 0)), (1, .int x1), (2, .int x2), (3, .int x3)]) hx hb dX7_suspectLine_43 hl (by decide) rfl (fun ls hl => ?_)
    refine lv_iload hx hb dX7_suspectLine_45 (lv_at hl 0 rfl) ?_
    refine lv_iload_n hx hb dX7_suspectLine_47 rfl (lv_at hl 3 rfl) ?_
    refine lv_icmp_le (tgt := 56) hx hb dX7_suspectLine_48 (by decide) (fun c4 => ?_) (fun c4 => ?_)
    · replace h := gif_t c4 h
      refine lv_iinc (v := (x3 + (1 : Int32))) (lv' := [(3, .int (x3 + (1 : Int32))), (4, .int q3), (0, .ref (ad 0)), (1, .int x1), (2, .int x2)]) hx hb dX7_suspectLine_56 hl (k := 4) rfl rfl (by decide) rfl (fun ls hl => ?_)
      refine lv_goto (tgt := 24) hx hb dX7_suspectLine_59 (by decide) ?_
      exact kc _ (Option.some.inj h).symm hM hS (lv_sub hl [2, 3, 4, 0] rfl)
    · replace h := gif_f c4 h
      refine lv_iload hx hb dX7_suspectLine_51 (lv_at hl 0 rfl) ?_
      refine lv_istore_n (lv' := [(2, .int q3), (4, .int q3), (0, .ref (ad 0)), (1, .int x1), (3, .int x3)]) hx hb dX7_suspectLine_53 rfl hl (by decide) rfl (fun ls hl => ?_)
      refine lv_iload_n hx hb dX7_suspectLine_54 rfl (lv_at hl 4 rfl) ?_
      refine lv_istore_n (lv' := [(1, .int x3), (2, .int q3), (4, .int q3), (0, .ref (ad 0)), (3, .int x3)]) hx hb dX7_suspectLine_55 rfl hl (by decide) rfl (fun ls hl => ?_)
      refine lv_iinc (v := (x3 + (1 : Int32))) (lv' := [(3, .int (x3 + (1 : Int32))), (1, .int x3), (2, .int q3), (4, .int q3), (0, .ref (ad 0))]) hx hb dX7_suspectLine_56 hl (k := 4) rfl rfl (by decide) rfl (fun ls hl => ?_)
      refine lv_goto (tgt := 24) hx hb dX7_suspectLine_59 (by decide) ?_
      exact kc _ (Option.some.inj h).symm hM hS (lv_sub hl [4, 1, 2, 0] rfl)
set_option maxHeartbeats 4000000 in
theorem wl_X7_suspectLine_24 {p : Program} {l : Launch} {e : Env} {s : State} {m : MethodId} {args : Array Value} {below : List Frame} {meth : Method} {c : Code} {D : va_G} {cy : Nat → ClassId} {ad : Nat → Nat} {base : Nat}  {μ : gM} {r : Int32} {RES : Int32 × gM} (F : gF p s m meth c cX7_suspectLine RX7 5 (some .int)) (E : gEnv l D cy ad base s) (kx : ∀ (t : Int32) {H : Heap} {locs : List Loc} {ls : Array Slot}, r = t → gW gFull D cy ad base μ H → va_S (gA base) s.heap H locs → lv_has ls 5 [(1, .int t)] → W p l e ({ frames := 5, cells := 0, slots := 0, locals := 120 } : Room) s m args below meth c H locs 0 0 (MQ below (gQ (some (.int RES.1)) gFull D cy ad base RES.2) args s 0 0 (gA base)) (F0 m 62 ls []))  : ∀ (n : Nat) (x1 : Int32) (x2 : Int32) (x3 : Int32), gloop (fun t => b_X7_suspectLine_24  t.1 t.2.1 t.2.2 μ) n (x1, x2, x3) = some r → ∀ {H : Heap} {locs : List Loc} {ls : Array Slot}, gW gFull D cy ad base μ H → va_S (gA base) s.heap H locs → lv_has ls 5 [(0, .ref (ad 0)), (1, .int x1), (2, .int x2), (3, .int x3)] → W p l e ({ frames := 5, cells := 0, slots := 0, locals := 120 } : Room) s m args below meth c H locs 0 0 (MQ below (gQ (some (.int RES.1)) gFull D cy ad base RES.2) args s 0 0 (gA base)) (F0 m 24 ls []) := by
  intro n
  induction n with
  | zero =>
    intro x1 x2 x3 h
    exact (gloop_0 h).elim
  | succ n ih =>
    intro x1 x2 x3 h H locs ls hM hS hl
    obtain ⟨o, h0, hc, hq⟩ := gloop_s h
    have h1 : b_X7_suspectLine_24 x1 x2 x3 μ = some o := h0
    exact wb_X7_suspectLine_24 h1 F E (fun t H locs ls ho hM hS hl => ih t.1 t.2.1 t.2.2 (hc t ho) hM hS hl) (fun t H locs ls ho hM hS hl => kx t (hq _ ho).symm hM hS hl) hM hS hl
def f_X7_suspectLine (μ : gM) : Option (Int32 × gM) :=
  Option.bind (f_X2_find (gi μ 34 4) μ) (fun q1 => Option.bind (gloop (fun t => b_X7_suspectLine_24  t.1 t.2.1 t.2.2 q1) gFuel ((-1 : Int32), (0 : Int32), (0 : Int32))) (fun q5 => some (q5, q1)))
set_option maxHeartbeats 4000000 in
set_option maxRecDepth 100000 in
theorem c_X7_suspectLine {l : Launch} {D : va_G} {cy : Nat → ClassId} {ad : Nat → Nat} {base : Nat}  {μ : gM} {RES : Int32 × gM} (h : f_X7_suspectLine  μ = some RES) : Met l yX7_suspectLine [.code yX7_suspectLine cX7_suspectLine 5 (some .int)] ({ frames := 5, cells := 0, slots := 0, locals := 120 } : Room) (va_Pc [.ref (ad 0)] (gB l gFull D cy ad base μ)) (gQ (some (.int RES.1)) gFull D cy ad base RES.2) 0 0 (gA base) := by
  refine Met.ofW (cc := cX7_suspectLine) (maxL := 5) (ret := (some .int)) (by decide) rfl ?_
  intro p e s m args below meth c s₁ B hml0 hv
  obtain ⟨rfl, E, hM⟩ := hv
  have F : gF p s m meth c cX7_suspectLine RX7 5 (some .int) := gF_of B hml0
  obtain ⟨hx, hb, hml, hown, hlocks, hr⟩ := id F
  have hS : va_S (gA base) s.heap s.heap [] := va_S.rf
  have hl := lv_entry ([.ref (ad 0)]) (n := 5) (Nat.le_of_ble_eq_true rfl)
  rw [lg_entry_eq]
  generalize (lg_sl ([.ref (ad 0)]) ++ List.replicate (5 - (lg_sl ([.ref (ad 0)])).length) Slot.unset).toArray = ls at hl ⊢
  have hl : lv_has ls 5 [(0, .ref (ad 0))] := hl
  unfold f_X7_suspectLine at h
  refine lv_aload_n hx hb dX7_suspectLine_0 rfl (lv_at hl 0 rfl) ?_
  refine gg_0_2 hx hb hown E hM hk_0 kw_460 dX7_suspectLine_1 ?_
  refine lv_aload_n hx hb dX7_suspectLine_4 rfl (lv_at hl 0 rfl) ?_
  refine gg_0_5 hx hb hown E hM hk_0 kw_463 dX7_suspectLine_5 ?_
  refine lv_aload_n hx hb dX7_suspectLine_8 rfl (lv_at hl 0 rfl) ?_
  refine gg_0_5 hx hb hown E hM hk_0 kw_463 dX7_suspectLine_9 ?_
  refine gg_34_4 hx hb hown E hM hk_34 kw_376 dX7_suspectLine_12 ?_
  obtain ⟨q1, hq1, h⟩ := gbind_e h
  refine g_callV (As := [.ref (ad 34), .int (gi μ 34 4)]) (rest := []) hx hb (hml.trans hl.1.symm) hown E hM hS hy_X2_find kw_668 (c_X2_find hq1) hk_6 dd_6 rfl rfl rfl (Nat.le_of_ble_eq_true rfl) ⟨Nat.le_of_ble_eq_true rfl, Nat.le_of_ble_eq_true rfl⟩ ⟨Nat.le_of_ble_eq_true rfl, Nat.le_of_ble_eq_true rfl⟩ dX7_suspectLine_15 (fun H locs hM hS => ?_)
  refine lv_iconst (v := (-1 : Int32)) hx hb dX7_suspectLine_18 (by decide) ?_
  refine lv_istore_n (lv' := [(1, .int (-1 : Int32)), (0, .ref (ad 0))]) hx hb dX7_suspectLine_19 rfl hl (by decide) rfl (fun ls hl => ?_)
  refine lv_iconst (v := (0 : Int32)) hx hb dX7_suspectLine_20 (by decide) ?_
  refine lv_istore_n (lv' := [(2, .int (0 : Int32)), (1, .int (-1 : Int32)), (0, .ref (ad 0))]) hx hb dX7_suspectLine_21 rfl hl (by decide) rfl (fun ls hl => ?_)
  refine lv_iconst (v := (0 : Int32)) hx hb dX7_suspectLine_22 (by decide) ?_
  refine lv_istore_n (lv' := [(3, .int (0 : Int32)), (2, .int (0 : Int32)), (1, .int (-1 : Int32)), (0, .ref (ad 0))]) hx hb dX7_suspectLine_23 rfl hl (by decide) rfl (fun ls hl => ?_)
  obtain ⟨z6, h1, h⟩ := gbind_e h
  refine wl_X7_suspectLine_24 F E (r := z6) (fun q5 H locs ls e1 hM hS hl => ?_) gFuel (-1 : Int32) (0 : Int32) (0 : Int32) h1 hM hS (lv_sub hl [3, 2, 1, 0] rfl)
  replace e1 : z6 = q5 := e1
  rw [e1] at h
  refine lv_iload_n hx hb dX7_suspectLine_62 rfl (lv_at hl 0 rfl) ?_
  obtain rfl := Option.some.inj h
  exact g_iret hx hb hr hlocks hM hS dX7_suspectLine_63
def f_X7_badWithout (p1 : Int32) (μ : gM) : Option ((Option Int32) × gM) :=
  Option.bind (f_X7_needIndex p1 (gi μ 34 2) μ) (fun q1 => Option.elim q1 (some (none, μ)) (fun v2 => Option.bind (f_X2_find ((gi μ 34 4) &&& (((1 : Int32) <<< (p1 &&& 31)) ^^^ (-1 : Int32))) μ) (fun q4 => Option.bind (f_X2_badSet  q4) (fun q5 => Option.bind (f_J6_bitCount_0f7a4 q5 q4) (fun q6 => some ((some q6), q4))))))
set_option maxHeartbeats 4000000 in
set_option maxRecDepth 100000 in
theorem c_X7_badWithout {l : Launch} {D : va_G} {cy : Nat → ClassId} {ad : Nat → Nat} {base : Nat} {p1 : Int32} {μ : gM} {RES : (Option Int32) × gM} (h : f_X7_badWithout p1 μ = some RES) : vx_Met l yX7_badWithout [.code yX7_badWithout cX7_badWithout 2 (some .int)] ({ frames := 7, cells := 1, slots := 6, locals := 120 } : Room) (va_Pc [.ref (ad 0), .int p1] (gB l gFull D cy ad base μ)) (gQo RES.1 (fun v => some (.int v)) gFull D cy ad base RES.2) (gX (RES.1 = none) gFull D cy ad base RES.2) 1 6 (gA base) := by
  refine vx_ofW (cc := cX7_badWithout) (maxL := 2) (ret := (some .int)) (by decide) rfl ?_
  intro p e s m args below meth c s₁ B hml0 hT hv
  obtain ⟨rfl, E, hM⟩ := hv
  have F : gF p s m meth c cX7_badWithout RX7 2 (some .int) := gF_of B hml0
  obtain ⟨hx, hb, hml, hown, hlocks, hr⟩ := id F
  have hS : va_S (gA base) s.heap s.heap [] := va_S.rf
  have hl := lv_entry ([.ref (ad 0), .int p1]) (n := 2) (Nat.le_of_ble_eq_true rfl)
  rw [lg_entry_eq]
  generalize (lg_sl ([.ref (ad 0), .int p1]) ++ List.replicate (2 - (lg_sl ([.ref (ad 0), .int p1])).length) Slot.unset).toArray = ls at hl ⊢
  have hl : lv_has ls 2 [(0, .ref (ad 0)), (1, .int p1)] := hl
  unfold f_X7_badWithout at h
  refine lv_iload_n hx hb dX7_badWithout_0 rfl (lv_at hl 1 rfl) ?_
  refine lv_aload_n hx hb dX7_badWithout_1 rfl (lv_at hl 0 rfl) ?_
  refine gg_0_5 hx hb hown E hM hk_0 kw_463 dX7_badWithout_2 ?_
  refine gg_34_2 hx hb hown E hM hk_34 kw_367 dX7_badWithout_5 ?_
  obtain ⟨q1, hq1, h⟩ := gbind_e h
  refine g_callXS (As := [.int p1, .int (gi μ 34 2)]) (rest := []) hx hb (hml.trans hl.1.symm) hown E hM hS hy_X7_needIndex kw_935 (c_X7_needIndex hq1) rfl rfl (Nat.le_of_ble_eq_true rfl) ⟨Nat.le_of_ble_eq_true rfl, Nat.le_of_ble_eq_true rfl⟩ ⟨Nat.le_of_ble_eq_true rfl, Nat.le_of_ble_eq_true rfl⟩ dX7_badWithout_8 (fun e3 q9 ce H locs hM hS hce hcv hcl => ?_) (fun v2 e3 H locs hM hS => ?_)
  · replace h := gel_n e3 h
    obtain rfl := Option.some.inj h
    exact g_outX hT hlocks rfl hM hS hce hcv hcl (Nat.le_of_ble_eq_true rfl) (Nat.le_of_ble_eq_true rfl)
  · replace h := gel_s e3 h
    refine lv_aload_n hx hb dX7_badWithout_11 rfl (lv_at hl 0 rfl) ?_
    refine gg_0_2 hx hb hown E hM hk_0 kw_460 dX7_badWithout_12 ?_
    refine lv_aload_n hx hb dX7_badWithout_15 rfl (lv_at hl 0 rfl) ?_
    refine gg_0_5 hx hb hown E hM hk_0 kw_463 dX7_badWithout_16 ?_
    refine lv_aload_n hx hb dX7_badWithout_19 rfl (lv_at hl 0 rfl) ?_
    refine gg_0_5 hx hb hown E hM hk_0 kw_463 dX7_badWithout_20 ?_
    refine gg_34_4 hx hb hown E hM hk_34 kw_376 dX7_badWithout_23 ?_
    refine lv_iconst (v := (1 : Int32)) hx hb dX7_badWithout_26 (by decide) ?_
    refine lv_iload_n hx hb dX7_badWithout_27 rfl (lv_at hl 1 rfl) ?_
    refine lv_ishl hx hb dX7_badWithout_28 ?_
    refine lv_iconst (v := (-1 : Int32)) hx hb dX7_badWithout_29 (by decide) ?_
    refine lv_ixor hx hb dX7_badWithout_30 ?_
    refine lv_iand hx hb dX7_badWithout_31 ?_
    obtain ⟨q4, hq4, h⟩ := gbind_e h
    refine g_callV (As := [.ref (ad 34), .int ((gi μ 34 4) &&& (((1 : Int32) <<< (p1 &&& 31)) ^^^ (-1 : Int32)))]) (rest := []) hx hb (hml.trans hl.1.symm) hown E hM hS hy_X2_find kw_668 (c_X2_find hq4) hk_6 dd_6 rfl rfl rfl (Nat.le_of_ble_eq_true rfl) ⟨Nat.le_of_ble_eq_true rfl, Nat.le_of_ble_eq_true rfl⟩ ⟨Nat.le_of_ble_eq_true rfl, Nat.le_of_ble_eq_true rfl⟩ dX7_badWithout_32 (fun H locs hM hS => ?_)
    refine lv_aload_n hx hb dX7_badWithout_35 rfl (lv_at hl 0 rfl) ?_
    refine gg_0_2 hx hb hown E hM hk_0 kw_460 dX7_badWithout_36 ?_
    obtain ⟨q5, hq5, h⟩ := gbind_e h
    refine g_callV (As := []) (rest := []) hx hb (hml.trans hl.1.symm) hown E hM hS hy_X2_badSet kw_725 (c_X2_badSet hq5) hk_6 dd_6 rfl rfl rfl (Nat.le_of_ble_eq_true rfl) ⟨Nat.le_of_ble_eq_true rfl, Nat.le_of_ble_eq_true rfl⟩ ⟨Nat.le_of_ble_eq_true rfl, Nat.le_of_ble_eq_true rfl⟩ dX7_badWithout_39 (fun H locs hM hS => ?_)
    obtain ⟨q6, hq6, h⟩ := gbind_e h
    refine g_callS (As := [.int q5]) (rest := []) hx hb (hml.trans hl.1.symm) hown E hM hS hy_J6_bitCount_0f7a4 kw_715 (c_J6_bitCount_0f7a4 hq6) rfl rfl (Nat.le_of_ble_eq_true rfl) ⟨Nat.le_of_ble_eq_true rfl, Nat.le_of_ble_eq_true rfl⟩ ⟨Nat.le_of_ble_eq_true rfl, Nat.le_of_ble_eq_true rfl⟩ dX7_badWithout_42 (fun H locs hM hS => ?_)
    obtain rfl := Option.some.inj h
    exact g_retX rfl (Nat.le_of_ble_eq_true rfl) (Nat.le_of_ble_eq_true rfl) (g_iret hx hb hr hlocks hM hS dX7_badWithout_45)
def f_X7_benchGap (p1 : Int32) (p2 : Int32) (μ : gM) : Option ((Option Int32) × gM) :=
  Option.bind (f_X7_needIndex p1 (gi μ 34 1) μ) (fun q1 => Option.elim q1 (some (none, μ)) (fun v2 => Option.bind (f_X7_needIndex p2 (gi μ 34 1) μ) (fun q4 => Option.elim q4 (some (none, μ)) (fun v5 => gchk (gIn p1 16) (if ((gi μ 39 p1.toNatClampNeg) = (-1 : Int32)) then some ((some (-2147483648 : Int32)), μ) else gchk (gIn p2 16) (if ((gi μ 39 p2.toNatClampNeg) = (-1 : Int32)) then some ((some (-2147483648 : Int32)), μ) else Option.bind (f_X6_trace p1 p2 μ) (fun q11 => gchk (gIn p2 16) (if ((gi q11 4 p2.toNatClampNeg) = (-1 : Int32)) then some ((some (-2147483648 : Int32)), q11) else gchk (gIn p2 16) (gchk (gIn p1 16) (some ((some ((gi q11 3 3) - ((100 : Int32) * ((gi q11 39 p2.toNatClampNeg) - (gi q11 39 p1.toNatClampNeg))))), q11)))))))))))
set_option maxHeartbeats 4000000 in
set_option maxRecDepth 100000 in
theorem c_X7_benchGap {l : Launch} {D : va_G} {cy : Nat → ClassId} {ad : Nat → Nat} {base : Nat} {p1 : Int32} {p2 : Int32} {μ : gM} {RES : (Option Int32) × gM} (h : f_X7_benchGap p1 p2 μ = some RES) : vx_Met l yX7_benchGap [.code yX7_benchGap cX7_benchGap 3 (some .int)] ({ frames := 7, cells := 2, slots := 12, locals := 116 } : Room) (va_Pc [.ref (ad 0), .int p1, .int p2] (gB l gFull D cy ad base μ)) (gQo RES.1 (fun v => some (.int v)) gFull D cy ad base RES.2) (gX (RES.1 = none) gFull D cy ad base RES.2) 2 12 (gA base) := by
  refine vx_ofW (cc := cX7_benchGap) (maxL := 3) (ret := (some .int)) (by decide) rfl ?_
  intro p e s m args below meth c s₁ B hml0 hT hv
  obtain ⟨rfl, E, hM⟩ := hv
  have F : gF p s m meth c cX7_benchGap RX7 3 (some .int) := gF_of B hml0
  obtain ⟨hx, hb, hml, hown, hlocks, hr⟩ := id F
  have hS : va_S (gA base) s.heap s.heap [] := va_S.rf
  have hl := lv_entry ([.ref (ad 0), .int p1, .int p2]) (n := 3) (Nat.le_of_ble_eq_true rfl)
  rw [lg_entry_eq]
  generalize (lg_sl ([.ref (ad 0), .int p1, .int p2]) ++ List.replicate (3 - (lg_sl ([.ref (ad 0), .int p1, .int p2])).length) Slot.unset).toArray = ls at hl ⊢
  have hl : lv_has ls 3 [(0, .ref (ad 0)), (1, .int p1), (2, .int p2)] := hl
  unfold f_X7_benchGap at h
  refine lv_iload_n hx hb dX7_benchGap_0 rfl (lv_at hl 1 rfl) ?_
  refine lv_aload_n hx hb dX7_benchGap_1 rfl (lv_at hl 0 rfl) ?_
  refine gg_0_5 hx hb hown E hM hk_0 kw_463 dX7_benchGap_2 ?_
  refine gg_34_1 hx hb hown E hM hk_34 kw_360 dX7_benchGap_5 ?_
  obtain ⟨q1, hq1, h⟩ := gbind_e h
  refine g_callXS (As := [.int p1, .int (gi μ 34 1)]) (rest := []) hx hb (hml.trans hl.1.symm) hown E hM hS hy_X7_needIndex kw_935 (c_X7_needIndex hq1) rfl rfl (Nat.le_of_ble_eq_true rfl) ⟨Nat.le_of_ble_eq_true rfl, Nat.le_of_ble_eq_true rfl⟩ ⟨Nat.le_of_ble_eq_true rfl, Nat.le_of_ble_eq_true rfl⟩ dX7_benchGap_8 (fun e3 q9 ce H locs hM hS hce hcv hcl => ?_) (fun v2 e3 H locs hM hS => ?_)
  · replace h := gel_n e3 h
    obtain rfl := Option.some.inj h
    exact g_outX hT hlocks rfl hM hS hce hcv hcl (Nat.le_of_ble_eq_true rfl) (Nat.le_of_ble_eq_true rfl)
  · replace h := gel_s e3 h
    refine lv_iload_n hx hb dX7_benchGap_11 rfl (lv_at hl 2 rfl) ?_
    refine lv_aload_n hx hb dX7_benchGap_12 rfl (lv_at hl 0 rfl) ?_
    refine gg_0_5 hx hb hown E hM hk_0 kw_463 dX7_benchGap_13 ?_
    refine gg_34_1 hx hb hown E hM hk_34 kw_360 dX7_benchGap_16 ?_
    obtain ⟨q4, hq4, h⟩ := gbind_e h
    refine g_callXS (As := [.int p2, .int (gi μ 34 1)]) (rest := []) hx hb (hml.trans hl.1.symm) hown E hM hS hy_X7_needIndex kw_935 (c_X7_needIndex hq4) rfl rfl (Nat.le_of_ble_eq_true rfl) ⟨Nat.le_of_ble_eq_true rfl, Nat.le_of_ble_eq_true rfl⟩ ⟨Nat.le_of_ble_eq_true rfl, Nat.le_of_ble_eq_true rfl⟩ dX7_benchGap_19 (fun e6 q9 ce H locs hM hS hce hcv hcl => ?_) (fun v5 e6 H locs hM hS => ?_)
    · replace h := gel_n e6 h
      obtain rfl := Option.some.inj h
      exact g_outX hT hlocks rfl hM hS hce hcv hcl (Nat.le_of_ble_eq_true rfl) (Nat.le_of_ble_eq_true rfl)
    · replace h := gel_s e6 h
      refine lv_aload_n hx hb dX7_benchGap_22 rfl (lv_at hl 0 rfl) ?_
      refine gg_0_5 hx hb hown E hM hk_0 kw_463 dX7_benchGap_23 ?_
      refine gg_34_9 hx hb hown E hM hk_34 kw_394 dX7_benchGap_26 ?_
      refine lv_iload_n hx hb dX7_benchGap_29 rfl (lv_at hl 1 rfl) ?_
      obtain ⟨c7, h⟩ := gchk_e h
      refine g_iald hx hb E hM hk_39 dd_39 c7 dX7_benchGap_30 ?_
      refine lv_iconst (v := (-1 : Int32)) hx hb dX7_benchGap_31 (by decide) ?_
      refine lv_icmp_eq (tgt := 48) hx hb dX7_benchGap_32 (by decide) (fun c8 => ?_) (fun c8 => ?_)
      · replace h := gif_t c8 h
        refine lv_ldc hx hb hown (v := (-2147483648 : Int32)) (E.kw kw_868) dX7_benchGap_48 ?_
        obtain rfl := Option.some.inj h
        exact g_retX rfl (Nat.le_of_ble_eq_true rfl) (Nat.le_of_ble_eq_true rfl) (g_iret hx hb hr hlocks hM hS dX7_benchGap_50)
      · replace h := gif_f c8 h
        refine lv_aload_n hx hb dX7_benchGap_35 rfl (lv_at hl 0 rfl) ?_
        refine gg_0_5 hx hb hown E hM hk_0 kw_463 dX7_benchGap_36 ?_
        refine gg_34_9 hx hb hown E hM hk_34 kw_394 dX7_benchGap_39 ?_
        refine lv_iload_n hx hb dX7_benchGap_42 rfl (lv_at hl 2 rfl) ?_
        obtain ⟨c9, h⟩ := gchk_e h
        refine g_iald hx hb E hM hk_39 dd_39 c9 dX7_benchGap_43 ?_
        refine lv_iconst (v := (-1 : Int32)) hx hb dX7_benchGap_44 (by decide) ?_
        refine lv_icmp_ne (tgt := 51) hx hb dX7_benchGap_45 (by decide) (fun c10 => ?_) (fun c10 => ?_)
        · replace h := gif_f c10 h
          refine lv_aload_n hx hb dX7_benchGap_51 rfl (lv_at hl 0 rfl) ?_
          refine gg_0_1 hx hb hown E hM hk_0 kw_459 dX7_benchGap_52 ?_
          refine lv_aload_n hx hb dX7_benchGap_55 rfl (lv_at hl 0 rfl) ?_
          refine gg_0_5 hx hb hown E hM hk_0 kw_463 dX7_benchGap_56 ?_
          refine lv_iload_n hx hb dX7_benchGap_59 rfl (lv_at hl 1 rfl) ?_
          refine lv_iload_n hx hb dX7_benchGap_60 rfl (lv_at hl 2 rfl) ?_
          obtain ⟨q11, hq11, h⟩ := gbind_e h
          refine g_callV (As := [.ref (ad 34), .int p1, .int p2]) (rest := []) hx hb (hml.trans hl.1.symm) hown E hM hS hy_X6_trace kw_1147 (c_X6_trace hq11) hk_3 dd_3 rfl rfl rfl (Nat.le_of_ble_eq_true rfl) ⟨Nat.le_of_ble_eq_true rfl, Nat.le_of_ble_eq_true rfl⟩ ⟨Nat.le_of_ble_eq_true rfl, Nat.le_of_ble_eq_true rfl⟩ dX7_benchGap_61 (fun H locs hM hS => ?_)
          refine lv_aload_n hx hb dX7_benchGap_64 rfl (lv_at hl 0 rfl) ?_
          refine gg_0_1 hx hb hown E hM hk_0 kw_459 dX7_benchGap_65 ?_
          refine gg_3_0 hx hb hown E hM hk_3 kw_177 dX7_benchGap_68 ?_
          refine lv_iload_n hx hb dX7_benchGap_71 rfl (lv_at hl 2 rfl) ?_
          obtain ⟨c12, h⟩ := gchk_e h
          refine g_iald hx hb E hM hk_4 dd_4 c12 dX7_benchGap_72 ?_
          refine lv_iconst (v := (-1 : Int32)) hx hb dX7_benchGap_73 (by decide) ?_
          refine lv_icmp_ne (tgt := 80) hx hb dX7_benchGap_74 (by decide) (fun c13 => ?_) (fun c13 => ?_)
          · replace h := gif_f c13 h
            refine lv_aload_n hx hb dX7_benchGap_80 rfl (lv_at hl 0 rfl) ?_
            refine gg_0_1 hx hb hown E hM hk_0 kw_459 dX7_benchGap_81 ?_
            refine gg_3_3 hx hb hown E hM hk_3 kw_182 dX7_benchGap_84 ?_
            refine lv_bipush (v := (100 : Int32)) hx hb dX7_benchGap_87 (by decide) ?_
            refine lv_aload_n hx hb dX7_benchGap_89 rfl (lv_at hl 0 rfl) ?_
            refine gg_0_5 hx hb hown E hM hk_0 kw_463 dX7_benchGap_90 ?_
            refine gg_34_9 hx hb hown E hM hk_34 kw_394 dX7_benchGap_93 ?_
            refine lv_iload_n hx hb dX7_benchGap_96 rfl (lv_at hl 2 rfl) ?_
            obtain ⟨c14, h⟩ := gchk_e h
            refine g_iald hx hb E hM hk_39 dd_39 c14 dX7_benchGap_97 ?_
            refine lv_aload_n hx hb dX7_benchGap_98 rfl (lv_at hl 0 rfl) ?_
            refine gg_0_5 hx hb hown E hM hk_0 kw_463 dX7_benchGap_99 ?_
            refine gg_34_9 hx hb hown E hM hk_34 kw_394 dX7_benchGap_102 ?_
            refine lv_iload_n hx hb dX7_benchGap_105 rfl (lv_at hl 1 rfl) ?_
            obtain ⟨c15, h⟩ := gchk_e h
            refine g_iald hx hb E hM hk_39 dd_39 c15 dX7_benchGap_106 ?_
            refine lv_isub hx hb dX7_benchGap_107 ?_
            refine lv_imul hx hb dX7_benchGap_108 ?_
            refine lv_isub hx hb dX7_benchGap_109 ?_
            obtain rfl := Option.some.inj h
            exact g_retX rfl (Nat.le_of_ble_eq_true rfl) (Nat.le_of_ble_eq_true rfl) (g_iret hx hb hr hlocks hM hS dX7_benchGap_110)
          · replace h := gif_t c13 h
            refine lv_ldc hx hb hown (v := (-2147483648 : Int32)) (E.kw kw_868) dX7_benchGap_77 ?_
            obtain rfl := Option.some.inj h
            exact g_retX rfl (Nat.le_of_ble_eq_true rfl) (Nat.le_of_ble_eq_true rfl) (g_iret hx hb hr hlocks hM hS dX7_benchGap_79)
        · replace h := gif_t c10 h
          refine lv_ldc hx hb hown (v := (-2147483648 : Int32)) (E.kw kw_868) dX7_benchGap_48 ?_
          obtain rfl := Option.some.inj h
          exact g_retX rfl (Nat.le_of_ble_eq_true rfl) (Nat.le_of_ble_eq_true rfl) (g_iret hx hb hr hlocks hM hS dX7_benchGap_50)
def f_X7_provisional (p1 : Int32) (μ : gM) : Option ((Option Int64) × gM) :=
  Option.bind (f_X7_needIndex p1 (gi μ 34 1) μ) (fun q1 => Option.elim q1 (some (none, μ)) (fun v2 => Option.bind (f_X0_carry  μ) (fun q4 => gchk (gIn p1 16) (some ((some (gl q4 21 p1.toNatClampNeg)), q4)))))
set_option maxHeartbeats 4000000 in
set_option maxRecDepth 100000 in
theorem c_X7_provisional {l : Launch} {D : va_G} {cy : Nat → ClassId} {ad : Nat → Nat} {base : Nat} {p1 : Int32} {μ : gM} {RES : (Option Int64) × gM} (h : f_X7_provisional p1 μ = some RES) : vx_Met l yX7_provisional [.code yX7_provisional cX7_provisional 2 (some .long)] ({ frames := 7, cells := 1, slots := 6, locals := 116 } : Room) (va_Pc [.ref (ad 0), .int p1] (gB l gFull D cy ad base μ)) (gQo RES.1 (fun v => some (.long v)) gFull D cy ad base RES.2) (gX (RES.1 = none) gFull D cy ad base RES.2) 1 6 (gA base) := by
  refine vx_ofW (cc := cX7_provisional) (maxL := 2) (ret := (some .long)) (by decide) rfl ?_
  intro p e s m args below meth c s₁ B hml0 hT hv
  obtain ⟨rfl, E, hM⟩ := hv
  have F : gF p s m meth c cX7_provisional RX7 2 (some .long) := gF_of B hml0
  obtain ⟨hx, hb, hml, hown, hlocks, hr⟩ := id F
  have hS : va_S (gA base) s.heap s.heap [] := va_S.rf
  have hl := lv_entry ([.ref (ad 0), .int p1]) (n := 2) (Nat.le_of_ble_eq_true rfl)
  rw [lg_entry_eq]
  generalize (lg_sl ([.ref (ad 0), .int p1]) ++ List.replicate (2 - (lg_sl ([.ref (ad 0), .int p1])).length) Slot.unset).toArray = ls at hl ⊢
  have hl : lv_has ls 2 [(0, .ref (ad 0)), (1, .int p1)] := hl
  unfold f_X7_provisional at h
  refine lv_iload_n hx hb dX7_provisional_0 rfl (lv_at hl 1 rfl) ?_
  refine lv_aload_n hx hb dX7_provisional_1 rfl (lv_at hl 0 rfl) ?_
  refine gg_0_5 hx hb hown E hM hk_0 kw_463 dX7_provisional_2 ?_
  refine gg_34_1 hx hb hown E hM hk_34 kw_360 dX7_provisional_5 ?_
  obtain ⟨q1, hq1, h⟩ := gbind_e h
  refine g_callXS (As := [.int p1, .int (gi μ 34 1)]) (rest := []) hx hb (hml.trans hl.1.symm) hown E hM hS hy_X7_needIndex kw_935 (c_X7_needIndex hq1) rfl rfl (Nat.le_of_ble_eq_true rfl) ⟨Nat.le_of_ble_eq_true rfl, Nat.le_of_ble_eq_true rfl⟩ ⟨Nat.le_of_ble_eq_true rfl, Nat.le_of_ble_eq_true rfl⟩ dX7_provisional_8 (fun e3 q9 ce H locs hM hS hce hcv hcl => ?_) (fun v2 e3 H locs hM hS => ?_)
  · replace h := gel_n e3 h
    obtain rfl := Option.some.inj h
    exact g_outX hT hlocks rfl hM hS hce hcv hcl (Nat.le_of_ble_eq_true rfl) (Nat.le_of_ble_eq_true rfl)
  · replace h := gel_s e3 h
    refine lv_aload_n hx hb dX7_provisional_11 rfl (lv_at hl 0 rfl) ?_
    refine gg_0_3 hx hb hown E hM hk_0 kw_461 dX7_provisional_12 ?_
    refine lv_aload_n hx hb dX7_provisional_15 rfl (lv_at hl 0 rfl) ?_
    refine gg_0_5 hx hb hown E hM hk_0 kw_463 dX7_provisional_16 ?_
    obtain ⟨q4, hq4, h⟩ := gbind_e h
    refine g_callV (As := [.ref (ad 34)]) (rest := []) hx hb (hml.trans hl.1.symm) hown E hM hS hy_X0_carry kw_753 (c_X0_carry hq4) hk_20 dd_20 rfl rfl rfl (Nat.le_of_ble_eq_true rfl) ⟨Nat.le_of_ble_eq_true rfl, Nat.le_of_ble_eq_true rfl⟩ ⟨Nat.le_of_ble_eq_true rfl, Nat.le_of_ble_eq_true rfl⟩ dX7_provisional_19 (fun H locs hM hS => ?_)
    refine lv_aload_n hx hb dX7_provisional_22 rfl (lv_at hl 0 rfl) ?_
    refine gg_0_3 hx hb hown E hM hk_0 kw_461 dX7_provisional_23 ?_
    refine gg_20_0 hx hb hown E hM hk_20 kw_281 dX7_provisional_26 ?_
    refine lv_iload_n hx hb dX7_provisional_29 rfl (lv_at hl 1 rfl) ?_
    obtain ⟨c5, h⟩ := gchk_e h
    refine g_lald hx hb E hM hk_21 dd_21 c5 dX7_provisional_30 ?_
    obtain rfl := Option.some.inj h
    exact g_retX rfl (Nat.le_of_ble_eq_true rfl) (Nat.le_of_ble_eq_true rfl) (g_lret hx hb hr hlocks hM hS dX7_provisional_31)
def b_X7_reached_15 (x1 : Int32) (x2 : Int32) (μ : gM) : Option ((Int32 × Int32) ⊕ (Int32)) :=
  if ((gi μ 34 1) ≤ x2) then some (.inr x1) else gchk (gIn x2 16) (if ((gl μ 21 x2.toNatClampNeg) = (-9223372036854775808 : Int64)) then some (.inl (x1, (x2 + (1 : Int32)))) else some (.inl ((x1 ||| ((1 : Int32) <<< (x2 &&& 31))), (x2 + (1 : Int32)))))
set_option maxHeartbeats 4000000 in
set_option maxRecDepth 100000 in
theorem wb_X7_reached_15 {p : Program} {l : Launch} {e : Env} {s : State} {m : MethodId} {args : Array Value} {below : List Frame} {meth : Method} {c : Code} {D : va_G} {cy : Nat → ClassId} {ad : Nat → Nat} {base : Nat} {x1 : Int32} {x2 : Int32} {μ : gM} {o : (Int32 × Int32) ⊕ (Int32)} {RES : Int32 × gM} (h : b_X7_reached_15 x1 x2 μ = some o) (F : gF p s m meth c cX7_reached RX7 3 (some .int)) (E : gEnv l D cy ad base s) (kc : ∀ (t : Int32 × Int32) {H : Heap} {locs : List Loc} {ls : Array Slot}, o = .inl t → gW gFull D cy ad base μ H → va_S (gA base) s.heap H locs → lv_has ls 3 [(0, .ref (ad 0)), (1, .int t.1), (2, .int t.2)] → W p l e ({ frames := 5, cells := 0, slots := 0, locals := 116 } : Room) s m args below meth c H locs 0 0 (MQ below (gQ (some (.int RES.1)) gFull D cy ad base RES.2) args s 0 0 (gA base)) (F0 m 15 ls [])) (kx : ∀ (t : Int32) {H : Heap} {locs : List Loc} {ls : Array Slot}, o = .inr t → gW gFull D cy ad base μ H → va_S (gA base) s.heap H locs → lv_has ls 3 [(1, .int t)] → W p l e ({ frames := 5, cells := 0, slots := 0, locals := 116 } : Room) s m args below meth c H locs 0 0 (MQ below (gQ (some (.int RES.1)) gFull D cy ad base RES.2) args s 0 0 (gA base)) (F0 m 54 ls []))  {H : Heap} {locs : List Loc} {ls : Array Slot} (hM : gW gFull D cy ad base μ H) (hS : va_S (gA base) s.heap H locs) (hl : lv_has ls 3 [(0, .ref (ad 0)), (1, .int x1), (2, .int x2)]) : W p l e ({ frames := 5, cells := 0, slots := 0, locals := 116 } : Room) s m args below meth c H locs 0 0 (MQ below (gQ (some (.int RES.1)) gFull D cy ad base RES.2) args s 0 0 (gA base)) (F0 m 15 ls []) := by
  obtain ⟨hx, hb, hml, hown, hlocks, hr⟩ := id F
  unfold b_X7_reached_15 at h
  refine lv_iload_n hx hb dX7_reached_15 rfl (lv_at hl 2 rfl) ?_
  refine lv_aload_n hx hb dX7_reached_16 rfl (lv_at hl 0 rfl) ?_
  refine gg_0_5 hx hb hown E hM hk_0 kw_463 dX7_reached_17 ?_
  refine gg_34_1 hx hb hown E hM hk_34 kw_360 dX7_reached_20 ?_
  refine lv_icmp_ge (tgt := 54) hx hb dX7_reached_23 (by decide) (fun c2 => ?_) (fun c2 => ?_)
  · replace h := gif_t c2 h
    exact kx _ (Option.some.inj h).symm hM hS (lv_sub hl [1] rfl)
  · replace h := gif_f c2 h
    refine lv_aload_n hx hb dX7_reached_26 rfl (lv_at hl 0 rfl) ?_
    refine gg_0_3 hx hb hown E hM hk_0 kw_461 dX7_reached_27 ?_
    refine gg_20_0 hx hb hown E hM hk_20 kw_281 dX7_reached_30 ?_
    refine lv_iload_n hx hb dX7_reached_33 rfl (lv_at hl 2 rfl) ?_
    obtain ⟨c3, h⟩ := gchk_e h
    refine g_lald hx hb E hM hk_21 dd_21 c3 dX7_reached_34 ?_
    refine lv_ldc2 hx hb hown (v := (-9223372036854775808 : Int64)) (E.kw kw_765) dX7_reached_35 ?_
    refine W.lcmp hx hb dX7_reached_38 ?_
    refine lv_if_eq (tgt := 48) hx hb dX7_reached_39 (by decide) (fun c4 => ?_) (fun c4 => ?_)
    · replace c4 := (lg_cmp_eq _ _).mp c4
      replace h := gif_t c4 h
      refine lv_iinc (v := (x2 + (1 : Int32))) (lv' := [(2, .int (x2 + (1 : Int32))), (0, .ref (ad 0)), (1, .int x1)]) hx hb dX7_reached_48 hl (k := 2) rfl rfl (by decide) rfl (fun ls hl => ?_)
      refine lv_goto (tgt := 15) hx hb dX7_reached_51 (by decide) ?_
      exact kc _ (Option.some.inj h).symm hM hS (lv_sub hl [1, 2, 0] rfl)
    · replace c4 := fun w => c4 ((lg_cmp_eq _ _).mpr w)
      replace h := gif_f c4 h
      refine lv_iload_n hx hb dX7_reached_42 rfl (lv_at hl 1 rfl) ?_
      refine lv_iconst (v := (1 : Int32)) hx hb dX7_reached_43 (by decide) ?_
      refine lv_iload_n hx hb dX7_reached_44 rfl (lv_at hl 2 rfl) ?_
      refine lv_ishl hx hb dX7_reached_45 ?_
      refine lv_ior hx hb dX7_reached_46 ?_
      refine lv_istore_n (lv' := [(1, .int (x1 ||| ((1 : Int32) <<< (x2 &&& 31)))), (0, .ref (ad 0)), (2, .int x2)]) hx hb dX7_reached_47 rfl hl (by decide) rfl (fun ls hl => ?_)
      refine lv_iinc (v := (x2 + (1 : Int32))) (lv' := [(2, .int (x2 + (1 : Int32))), (1, .int (x1 ||| ((1 : Int32) <<< (x2 &&& 31)))), (0, .ref (ad 0))]) hx hb dX7_reached_48 hl (k := 2) rfl rfl (by decide) rfl (fun ls hl => ?_)
      refine lv_goto (tgt := 15) hx hb dX7_reached_51 (by decide) ?_
      exact kc _ (Option.some.inj h).symm hM hS (lv_sub hl [2, 1, 0] rfl)
set_option maxHeartbeats 4000000 in
theorem wl_X7_reached_15 {p : Program} {l : Launch} {e : Env} {s : State} {m : MethodId} {args : Array Value} {below : List Frame} {meth : Method} {c : Code} {D : va_G} {cy : Nat → ClassId} {ad : Nat → Nat} {base : Nat}  {μ : gM} {r : Int32} {RES : Int32 × gM} (F : gF p s m meth c cX7_reached RX7 3 (some .int)) (E : gEnv l D cy ad base s) (kx : ∀ (t : Int32) {H : Heap} {locs : List Loc} {ls : Array Slot}, r = t → gW gFull D cy ad base μ H → va_S (gA base) s.heap H locs → lv_has ls 3 [(1, .int t)] → W p l e ({ frames := 5, cells := 0, slots := 0, locals := 116 } : Room) s m args below meth c H locs 0 0 (MQ below (gQ (some (.int RES.1)) gFull D cy ad base RES.2) args s 0 0 (gA base)) (F0 m 54 ls []))  : ∀ (n : Nat) (x1 : Int32) (x2 : Int32), gloop (fun t => b_X7_reached_15  t.1 t.2 μ) n (x1, x2) = some r → ∀ {H : Heap} {locs : List Loc} {ls : Array Slot}, gW gFull D cy ad base μ H → va_S (gA base) s.heap H locs → lv_has ls 3 [(0, .ref (ad 0)), (1, .int x1), (2, .int x2)] → W p l e ({ frames := 5, cells := 0, slots := 0, locals := 116 } : Room) s m args below meth c H locs 0 0 (MQ below (gQ (some (.int RES.1)) gFull D cy ad base RES.2) args s 0 0 (gA base)) (F0 m 15 ls []) := by
  intro n
  induction n with
  | zero =>
    intro x1 x2 h
    exact (gloop_0 h).elim
  | succ n ih =>
    intro x1 x2 h H locs ls hM hS hl
    obtain ⟨o, h0, hc, hq⟩ := gloop_s h
    have h1 : b_X7_reached_15 x1 x2 μ = some o := h0
    exact wb_X7_reached_15 h1 F E (fun t H locs ls ho hM hS hl => ih t.1 t.2 (hc t ho) hM hS hl) (fun t H locs ls ho hM hS hl => kx t (hq _ ho).symm hM hS hl) hM hS hl
def f_X7_reached (μ : gM) : Option (Int32 × gM) :=
  Option.bind (f_X0_carry  μ) (fun q1 => Option.bind (gloop (fun t => b_X7_reached_15  t.1 t.2 q1) gFuel ((0 : Int32), (0 : Int32))) (fun q5 => some (q5, q1)))
set_option maxHeartbeats 4000000 in
set_option maxRecDepth 100000 in
theorem c_X7_reached {l : Launch} {D : va_G} {cy : Nat → ClassId} {ad : Nat → Nat} {base : Nat}  {μ : gM} {RES : Int32 × gM} (h : f_X7_reached  μ = some RES) : Met l yX7_reached [.code yX7_reached cX7_reached 3 (some .int)] ({ frames := 5, cells := 0, slots := 0, locals := 116 } : Room) (va_Pc [.ref (ad 0)] (gB l gFull D cy ad base μ)) (gQ (some (.int RES.1)) gFull D cy ad base RES.2) 0 0 (gA base) := by
  refine Met.ofW (cc := cX7_reached) (maxL := 3) (ret := (some .int)) (by decide) rfl ?_
  intro p e s m args below meth c s₁ B hml0 hv
  obtain ⟨rfl, E, hM⟩ := hv
  have F : gF p s m meth c cX7_reached RX7 3 (some .int) := gF_of B hml0
  obtain ⟨hx, hb, hml, hown, hlocks, hr⟩ := id F
  have hS : va_S (gA base) s.heap s.heap [] := va_S.rf
  have hl := lv_entry ([.ref (ad 0)]) (n := 3) (Nat.le_of_ble_eq_true rfl)
  rw [lg_entry_eq]
  generalize (lg_sl ([.ref (ad 0)]) ++ List.replicate (3 - (lg_sl ([.ref (ad 0)])).length) Slot.unset).toArray = ls at hl ⊢
  have hl : lv_has ls 3 [(0, .ref (ad 0))] := hl
  unfold f_X7_reached at h
  refine lv_aload_n hx hb dX7_reached_0 rfl (lv_at hl 0 rfl) ?_
  refine gg_0_3 hx hb hown E hM hk_0 kw_461 dX7_reached_1 ?_
  refine lv_aload_n hx hb dX7_reached_4 rfl (lv_at hl 0 rfl) ?_
  refine gg_0_5 hx hb hown E hM hk_0 kw_463 dX7_reached_5 ?_
  obtain ⟨q1, hq1, h⟩ := gbind_e h
  refine g_callV (As := [.ref (ad 34)]) (rest := []) hx hb (hml.trans hl.1.symm) hown E hM hS hy_X0_carry kw_753 (c_X0_carry hq1) hk_20 dd_20 rfl rfl rfl (Nat.le_of_ble_eq_true rfl) ⟨Nat.le_of_ble_eq_true rfl, Nat.le_of_ble_eq_true rfl⟩ ⟨Nat.le_of_ble_eq_true rfl, Nat.le_of_ble_eq_true rfl⟩ dX7_reached_8 (fun H locs hM hS => ?_)
  refine lv_iconst (v := (0 : Int32)) hx hb dX7_reached_11 (by decide) ?_
  refine lv_istore_n (lv' := [(1, .int (0 : Int32)), (0, .ref (ad 0))]) hx hb dX7_reached_12 rfl hl (by decide) rfl (fun ls hl => ?_)
  refine lv_iconst (v := (0 : Int32)) hx hb dX7_reached_13 (by decide) ?_
  refine lv_istore_n (lv' := [(2, .int (0 : Int32)), (1, .int (0 : Int32)), (0, .ref (ad 0))]) hx hb dX7_reached_14 rfl hl (by decide) rfl (fun ls hl => ?_)
  obtain ⟨z6, h1, h⟩ := gbind_e h
  refine wl_X7_reached_15 F E (r := z6) (fun q5 H locs ls e1 hM hS hl => ?_) gFuel (0 : Int32) (0 : Int32) h1 hM hS (lv_sub hl [2, 1, 0] rfl)
  replace e1 : z6 = q5 := e1
  rw [e1] at h
  refine lv_iload_n hx hb dX7_reached_54 rfl (lv_at hl 0 rfl) ?_
  obtain rfl := Option.some.inj h
  exact g_iret hx hb hr hlocks hM hS dX7_reached_55
def f_X7_isAdjusted (μ : gM) : Option (Bool) :=
  Option.bind (i2b (gi μ 20 2)) (fun b1 => some b1)
set_option maxHeartbeats 4000000 in
set_option maxRecDepth 100000 in
theorem c_X7_isAdjusted {l : Launch} {D : va_G} {cy : Nat → ClassId} {ad : Nat → Nat} {base : Nat}  {μ : gM} {RES : Bool} (h : f_X7_isAdjusted  μ = some RES) : Met l yX7_isAdjusted [.code yX7_isAdjusted cX7_isAdjusted 1 (some .boolean)] ({ frames := 0, cells := 0, slots := 0, locals := 0 } : Room) (va_Pc [.ref (ad 0)] (gB l gFull D cy ad base μ)) (gQ (some (.int (b2i RES))) gFull D cy ad base μ) 0 0 (gA base) := by
  refine Met.ofW (cc := cX7_isAdjusted) (maxL := 1) (ret := (some .boolean)) (by decide) rfl ?_
  intro p e s m args below meth c s₁ B hml0 hv
  obtain ⟨rfl, E, hM⟩ := hv
  have F : gF p s m meth c cX7_isAdjusted RX7 1 (some .boolean) := gF_of B hml0
  obtain ⟨hx, hb, hml, hown, hlocks, hr⟩ := id F
  have hS : va_S (gA base) s.heap s.heap [] := va_S.rf
  have hl := lv_entry ([.ref (ad 0)]) (n := 1) (Nat.le_of_ble_eq_true rfl)
  rw [lg_entry_eq]
  generalize (lg_sl ([.ref (ad 0)]) ++ List.replicate (1 - (lg_sl ([.ref (ad 0)])).length) Slot.unset).toArray = ls at hl ⊢
  have hl : lv_has ls 1 [(0, .ref (ad 0))] := hl
  unfold f_X7_isAdjusted at h
  refine lv_aload_n hx hb dX7_isAdjusted_0 rfl (lv_at hl 0 rfl) ?_
  refine gg_0_3 hx hb hown E hM hk_0 kw_461 dX7_isAdjusted_1 ?_
  refine gg_20_2 hx hb hown E hM hk_20 kw_286 dX7_isAdjusted_4 ?_
  obtain ⟨b1, hi, h⟩ := gbind_e h
  rw [i2b_e hi]
  obtain rfl := Option.some.inj h
  exact g_zret hx hb hr hlocks (b2i_nar _) hM hS dX7_isAdjusted_7
def f_X7_heightOf (p1 : Int32) (μ : gM) : Option (Option Int64) :=
  Option.bind (f_X7_needIndex p1 (gi μ 34 1) μ) (fun q1 => Option.elim q1 (some none) (fun v2 => Option.bind (f_X0_settledHeight p1 μ) (fun q4 => some (some q4))))
set_option maxHeartbeats 4000000 in
set_option maxRecDepth 100000 in
theorem c_X7_heightOf {l : Launch} {D : va_G} {cy : Nat → ClassId} {ad : Nat → Nat} {base : Nat} {p1 : Int32} {μ : gM} {RES : Option Int64} (h : f_X7_heightOf p1 μ = some RES) : vx_Met l yX7_heightOf [.code yX7_heightOf cX7_heightOf 2 (some .long)] ({ frames := 7, cells := 1, slots := 6, locals := 103 } : Room) (va_Pc [.ref (ad 0), .int p1] (gB l gFull D cy ad base μ)) (gQo RES (fun v => some (.long v)) gFull D cy ad base μ) (gX (RES = none) gFull D cy ad base μ) 1 6 (gA base) := by
  refine vx_ofW (cc := cX7_heightOf) (maxL := 2) (ret := (some .long)) (by decide) rfl ?_
  intro p e s m args below meth c s₁ B hml0 hT hv
  obtain ⟨rfl, E, hM⟩ := hv
  have F : gF p s m meth c cX7_heightOf RX7 2 (some .long) := gF_of B hml0
  obtain ⟨hx, hb, hml, hown, hlocks, hr⟩ := id F
  have hS : va_S (gA base) s.heap s.heap [] := va_S.rf
  have hl := lv_entry ([.ref (ad 0), .int p1]) (n := 2) (Nat.le_of_ble_eq_true rfl)
  rw [lg_entry_eq]
  generalize (lg_sl ([.ref (ad 0), .int p1]) ++ List.replicate (2 - (lg_sl ([.ref (ad 0), .int p1])).length) Slot.unset).toArray = ls at hl ⊢
  have hl : lv_has ls 2 [(0, .ref (ad 0)), (1, .int p1)] := hl
  unfold f_X7_heightOf at h
  refine lv_iload_n hx hb dX7_heightOf_0 rfl (lv_at hl 1 rfl) ?_
  refine lv_aload_n hx hb dX7_heightOf_1 rfl (lv_at hl 0 rfl) ?_
  refine gg_0_5 hx hb hown E hM hk_0 kw_463 dX7_heightOf_2 ?_
  refine gg_34_1 hx hb hown E hM hk_34 kw_360 dX7_heightOf_5 ?_
  obtain ⟨q1, hq1, h⟩ := gbind_e h
  refine g_callXS (As := [.int p1, .int (gi μ 34 1)]) (rest := []) hx hb (hml.trans hl.1.symm) hown E hM hS hy_X7_needIndex kw_935 (c_X7_needIndex hq1) rfl rfl (Nat.le_of_ble_eq_true rfl) ⟨Nat.le_of_ble_eq_true rfl, Nat.le_of_ble_eq_true rfl⟩ ⟨Nat.le_of_ble_eq_true rfl, Nat.le_of_ble_eq_true rfl⟩ dX7_heightOf_8 (fun e3 q9 ce H locs hM hS hce hcv hcl => ?_) (fun v2 e3 H locs hM hS => ?_)
  · replace h := gel_n e3 h
    obtain rfl := Option.some.inj h
    exact g_outX hT hlocks rfl hM hS hce hcv hcl (Nat.le_of_ble_eq_true rfl) (Nat.le_of_ble_eq_true rfl)
  · replace h := gel_s e3 h
    refine lv_aload_n hx hb dX7_heightOf_11 rfl (lv_at hl 0 rfl) ?_
    refine gg_0_3 hx hb hown E hM hk_0 kw_461 dX7_heightOf_12 ?_
    refine lv_iload_n hx hb dX7_heightOf_15 rfl (lv_at hl 1 rfl) ?_
    obtain ⟨q4, hq4, h⟩ := gbind_e h
    refine g_callV (As := [.int p1]) (rest := []) hx hb (hml.trans hl.1.symm) hown E hM hS hy_X0_settledHeight kw_797 (c_X0_settledHeight hq4) hk_20 dd_20 rfl rfl rfl (Nat.le_of_ble_eq_true rfl) ⟨Nat.le_of_ble_eq_true rfl, Nat.le_of_ble_eq_true rfl⟩ ⟨Nat.le_of_ble_eq_true rfl, Nat.le_of_ble_eq_true rfl⟩ dX7_heightOf_16 (fun H locs hM hS => ?_)
    obtain rfl := Option.some.inj h
    exact g_retX rfl (Nat.le_of_ble_eq_true rfl) (Nat.le_of_ble_eq_true rfl) (g_lret hx hb hr hlocks hM hS dX7_heightOf_19)
def f_X7_residual (p1 : Int32) (μ : gM) : Option (Option Int64) :=
  Option.bind (f_X7_needIndex p1 (gi μ 34 2) μ) (fun q1 => Option.elim q1 (some none) (fun v2 => Option.bind (f_X0_misfit p1 μ) (fun q4 => some (some q4))))
set_option maxHeartbeats 4000000 in
set_option maxRecDepth 100000 in
theorem c_X7_residual {l : Launch} {D : va_G} {cy : Nat → ClassId} {ad : Nat → Nat} {base : Nat} {p1 : Int32} {μ : gM} {RES : Option Int64} (h : f_X7_residual p1 μ = some RES) : vx_Met l yX7_residual [.code yX7_residual cX7_residual 2 (some .long)] ({ frames := 7, cells := 1, slots := 6, locals := 103 } : Room) (va_Pc [.ref (ad 0), .int p1] (gB l gFull D cy ad base μ)) (gQo RES (fun v => some (.long v)) gFull D cy ad base μ) (gX (RES = none) gFull D cy ad base μ) 1 6 (gA base) := by
  refine vx_ofW (cc := cX7_residual) (maxL := 2) (ret := (some .long)) (by decide) rfl ?_
  intro p e s m args below meth c s₁ B hml0 hT hv
  obtain ⟨rfl, E, hM⟩ := hv
  have F : gF p s m meth c cX7_residual RX7 2 (some .long) := gF_of B hml0
  obtain ⟨hx, hb, hml, hown, hlocks, hr⟩ := id F
  have hS : va_S (gA base) s.heap s.heap [] := va_S.rf
  have hl := lv_entry ([.ref (ad 0), .int p1]) (n := 2) (Nat.le_of_ble_eq_true rfl)
  rw [lg_entry_eq]
  generalize (lg_sl ([.ref (ad 0), .int p1]) ++ List.replicate (2 - (lg_sl ([.ref (ad 0), .int p1])).length) Slot.unset).toArray = ls at hl ⊢
  have hl : lv_has ls 2 [(0, .ref (ad 0)), (1, .int p1)] := hl
  unfold f_X7_residual at h
  refine lv_iload_n hx hb dX7_residual_0 rfl (lv_at hl 1 rfl) ?_
  refine lv_aload_n hx hb dX7_residual_1 rfl (lv_at hl 0 rfl) ?_
  refine gg_0_5 hx hb hown E hM hk_0 kw_463 dX7_residual_2 ?_
  refine gg_34_2 hx hb hown E hM hk_34 kw_367 dX7_residual_5 ?_
  obtain ⟨q1, hq1, h⟩ := gbind_e h
  refine g_callXS (As := [.int p1, .int (gi μ 34 2)]) (rest := []) hx hb (hml.trans hl.1.symm) hown E hM hS hy_X7_needIndex kw_935 (c_X7_needIndex hq1) rfl rfl (Nat.le_of_ble_eq_true rfl) ⟨Nat.le_of_ble_eq_true rfl, Nat.le_of_ble_eq_true rfl⟩ ⟨Nat.le_of_ble_eq_true rfl, Nat.le_of_ble_eq_true rfl⟩ dX7_residual_8 (fun e3 q9 ce H locs hM hS hce hcv hcl => ?_) (fun v2 e3 H locs hM hS => ?_)
  · replace h := gel_n e3 h
    obtain rfl := Option.some.inj h
    exact g_outX hT hlocks rfl hM hS hce hcv hcl (Nat.le_of_ble_eq_true rfl) (Nat.le_of_ble_eq_true rfl)
  · replace h := gel_s e3 h
    refine lv_aload_n hx hb dX7_residual_11 rfl (lv_at hl 0 rfl) ?_
    refine gg_0_3 hx hb hown E hM hk_0 kw_461 dX7_residual_12 ?_
    refine lv_aload_n hx hb dX7_residual_15 rfl (lv_at hl 0 rfl) ?_
    refine gg_0_5 hx hb hown E hM hk_0 kw_463 dX7_residual_16 ?_
    refine lv_iload_n hx hb dX7_residual_19 rfl (lv_at hl 1 rfl) ?_
    obtain ⟨q4, hq4, h⟩ := gbind_e h
    refine g_callV (As := [.ref (ad 34), .int p1]) (rest := []) hx hb (hml.trans hl.1.symm) hown E hM hS hy_X0_misfit kw_775 (c_X0_misfit hq4) hk_20 dd_20 rfl rfl rfl (Nat.le_of_ble_eq_true rfl) ⟨Nat.le_of_ble_eq_true rfl, Nat.le_of_ble_eq_true rfl⟩ ⟨Nat.le_of_ble_eq_true rfl, Nat.le_of_ble_eq_true rfl⟩ dX7_residual_20 (fun H locs hM hS => ?_)
    obtain rfl := Option.some.inj h
    exact g_retX rfl (Nat.le_of_ble_eq_true rfl) (Nat.le_of_ble_eq_true rfl) (g_lret hx hb hr hlocks hM hS dX7_residual_23)
def b_X7_worstLine_9 (x1 : Int32) (x2 : Int64) (x4 : Int32) (μ : gM) : Option ((Int32 × Int64 × Int32) ⊕ (Int32)) :=
  if ((gi μ 34 2) ≤ x4) then some (.inr x1) else Option.bind (f_X0_misfit x4 μ) (fun q2 => Option.bind (f_X3_lineLength x4 μ) (fun q3 => if (q2 = (-9223372036854775808 : Int64)) then some (.inl (x1, x2, (x4 + (1 : Int32)))) else if (q3 ≤ 0) then some (.inl (x1, x2, (x4 + (1 : Int32)))) else gchk (¬ q3.toInt64 = 0) (if ((((1000 : Int64) * (labs q2)) / q3.toInt64) ≤ x2) then some (.inl (x1, x2, (x4 + (1 : Int32)))) else some (.inl (x4, (((1000 : Int64) * (labs q2)) / q3.toInt64), (x4 + (1 : Int32)))))))
set_option maxHeartbeats 4000000 in
set_option maxRecDepth 100000 in
theorem wb_X7_worstLine_9 {p : Program} {l : Launch} {e : Env} {s : State} {m : MethodId} {args : Array Value} {below : List Frame} {meth : Method} {c : Code} {D : va_G} {cy : Nat → ClassId} {ad : Nat → Nat} {base : Nat} {x1 : Int32} {x2 : Int64} {x4 : Int32} {μ : gM} {o : (Int32 × Int64 × Int32) ⊕ (Int32)} {RES : Int32} (h : b_X7_worstLine_9 x1 x2 x4 μ = some o) (F : gF p s m meth c cX7_worstLine RX7 10 (some .int)) (E : gEnv l D cy ad base s) (kc : ∀ (t : Int32 × Int64 × Int32) {H : Heap} {locs : List Loc} {ls : Array Slot}, o = .inl t → gW gFull D cy ad base μ H → va_S (gA base) s.heap H locs → lv_has ls 10 [(0, .ref (ad 0)), (1, .int t.1), (2, .long t.2.1), (4, .int t.2.2)] → W p l e ({ frames := 4, cells := 0, slots := 0, locals := 94 } : Room) s m args below meth c H locs 0 0 (MQ below (gQ (some (.int RES)) gFull D cy ad base μ) args s 0 0 (gA base)) (F0 m 9 ls [])) (kx : ∀ (t : Int32) {H : Heap} {locs : List Loc} {ls : Array Slot}, o = .inr t → gW gFull D cy ad base μ H → va_S (gA base) s.heap H locs → lv_has ls 10 [(1, .int t)] → W p l e ({ frames := 4, cells := 0, slots := 0, locals := 94 } : Room) s m args below meth c H locs 0 0 (MQ below (gQ (some (.int RES)) gFull D cy ad base μ) args s 0 0 (gA base)) (F0 m 95 ls []))  {H : Heap} {locs : List Loc} {ls : Array Slot} (hM : gW gFull D cy ad base μ H) (hS : va_S (gA base) s.heap H locs) (hl : lv_has ls 10 [(0, .ref (ad 0)), (1, .int x1), (2, .long x2), (4, .int x4)]) : W p l e ({ frames := 4, cells := 0, slots := 0, locals := 94 } : Room) s m args below meth c H locs 0 0 (MQ below (gQ (some (.int RES)) gFull D cy ad base μ) args s 0 0 (gA base)) (F0 m 9 ls []) := by
  obtain ⟨hx, hb, hml, hown, hlocks, hr⟩ := id F
  unfold b_X7_worstLine_9 at h
  refine lv_iload hx hb dX7_worstLine_9 (lv_at hl 3 rfl) ?_
  refine lv_aload_n hx hb dX7_worstLine_11 rfl (lv_at hl 0 rfl) ?_
  refine gg_0_5 hx hb hown E hM hk_0 kw_463 dX7_worstLine_12 ?_
  refine gg_34_2 hx hb hown E hM hk_34 kw_367 dX7_worstLine_15 ?_
  refine lv_icmp_ge (tgt := 95) hx hb dX7_worstLine_18 (by decide) (fun c1 => ?_) (fun c1 => ?_)
  · replace h := gif_t c1 h
    exact kx _ (Option.some.inj h).symm hM hS (lv_sub hl [1] rfl)
  · replace h := gif_f c1 h
    refine lv_aload_n hx hb dX7_worstLine_21 rfl (lv_at hl 0 rfl) ?_
    refine gg_0_3 hx hb hown E hM hk_0 kw_461 dX7_worstLine_22 ?_
    refine lv_aload_n hx hb dX7_worstLine_25 rfl (lv_at hl 0 rfl) ?_
    refine gg_0_5 hx hb hown E hM hk_0 kw_463 dX7_worstLine_26 ?_
    refine lv_iload hx hb dX7_worstLine_29 (lv_at hl 3 rfl) ?_
    obtain ⟨q2, hq2, h⟩ := gbind_e h
    refine g_callV (As := [.ref (ad 34), .int x4]) (rest := []) hx hb (hml.trans hl.1.symm) hown E hM hS hy_X0_misfit kw_775 (c_X0_misfit hq2) hk_20 dd_20 rfl rfl rfl (Nat.le_of_ble_eq_true rfl) ⟨Nat.le_of_ble_eq_true rfl, Nat.le_of_ble_eq_true rfl⟩ ⟨Nat.le_of_ble_eq_true rfl, Nat.le_of_ble_eq_true rfl⟩ dX7_worstLine_31 (fun H locs hM hS => ?_)
    refine lv_lstore (lv' := [(5, .long q2), (0, .ref (ad 0)), (1, .int x1), (2, .long x2), (4, .int x4)]) hx hb dX7_worstLine_34 hl (by decide) rfl (fun ls hl => ?_)
    refine lv_aload_n hx hb dX7_worstLine_36 rfl (lv_at hl 1 rfl) ?_
    refine gg_0_5 hx hb hown E hM hk_0 kw_463 dX7_worstLine_37 ?_
    refine lv_iload hx hb dX7_worstLine_40 (lv_at hl 4 rfl) ?_
    obtain ⟨q3, hq3, h⟩ := gbind_e h
    refine g_callV (As := [.int x4]) (rest := []) hx hb (hml.trans hl.1.symm) hown E hM hS hy_X3_lineLength kw_788 (c_X3_lineLength hq3) hk_34 dd_34 rfl rfl rfl (Nat.le_of_ble_eq_true rfl) ⟨Nat.le_of_ble_eq_true rfl, Nat.le_of_ble_eq_true rfl⟩ ⟨Nat.le_of_ble_eq_true rfl, Nat.le_of_ble_eq_true rfl⟩ dX7_worstLine_42 (fun H locs hM hS => ?_)
    refine lv_istore (lv' := [(7, .int q3), (5, .long q2), (0, .ref (ad 0)), (1, .int x1), (2, .long x2), (4, .int x4)]) hx hb dX7_worstLine_45 hl (by decide) rfl (fun ls hl => ?_)
    refine lv_lload hx hb dX7_worstLine_47 (lv_at hl 1 rfl) ?_
    refine lv_ldc2 hx hb hown (v := (-9223372036854775808 : Int64)) (E.kw kw_765) dX7_worstLine_49 ?_
    refine W.lcmp hx hb dX7_worstLine_52 ?_
    refine lv_if_eq (tgt := 89) hx hb dX7_worstLine_53 (by decide) (fun c4 => ?_) (fun c4 => ?_)
    · replace c4 := (lg_cmp_eq _ _).mp c4
      replace h := gif_t c4 h
      refine lv_iinc (v := (x4 + (1 : Int32))) (lv' := [(4, .int (x4 + (1 : Int32))), (7, .int q3), (5, .long q2), (0, .ref (ad 0)), (1, .int x1), (2, .long x2)]) hx hb dX7_worstLine_89 hl (k := 5) rfl rfl (by decide) rfl (fun ls hl => ?_)
      refine lv_goto (tgt := 9) hx hb dX7_worstLine_92 (by decide) ?_
      exact kc _ (Option.some.inj h).symm hM hS (lv_sub hl [3, 4, 5, 0] rfl)
    · replace c4 := fun w => c4 ((lg_cmp_eq _ _).mpr w)
      replace h := gif_f c4 h
      refine lv_iload hx hb dX7_worstLine_56 (lv_at hl 0 rfl) ?_
      refine lv_if_le (tgt := 89) hx hb dX7_worstLine_58 (by decide) (fun c5 => ?_) (fun c5 => ?_)
      · replace h := gif_t c5 h
        refine lv_iinc (v := (x4 + (1 : Int32))) (lv' := [(4, .int (x4 + (1 : Int32))), (7, .int q3), (5, .long q2), (0, .ref (ad 0)), (1, .int x1), (2, .long x2)]) hx hb dX7_worstLine_89 hl (k := 5) rfl rfl (by decide) rfl (fun ls hl => ?_)
        refine lv_goto (tgt := 9) hx hb dX7_worstLine_92 (by decide) ?_
        exact kc _ (Option.some.inj h).symm hM hS (lv_sub hl [3, 4, 5, 0] rfl)
      · replace h := gif_f c5 h
        refine lv_ldc2 hx hb hown (v := (1000 : Int64)) (E.kw kw_789) dX7_worstLine_61 ?_
        refine lv_lload hx hb dX7_worstLine_64 (lv_at hl 1 rfl) ?_
        refine va_mabs_long hx hb (hml.trans hl.1.symm) hown (E.kw kw_790) (E.kw kw_791) (E.kw kw_119) (E.kw kw_792) (Nat.le_of_ble_eq_true rfl) (Nat.le_of_ble_eq_true rfl) (Nat.le_of_ble_eq_true rfl) (Nat.le_of_ble_eq_true rfl) dX7_worstLine_66 ?_
        refine lv_lmul hx hb dX7_worstLine_69 ?_
        refine lv_iload hx hb dX7_worstLine_70 (lv_at hl 0 rfl) ?_
        refine lv_i2l (v := q3.toInt64) hx hb dX7_worstLine_72 rfl ?_
        obtain ⟨c7, h⟩ := gchk_e h
        refine lv_ldiv hx hb dX7_worstLine_73 c7 ?_
        refine lv_lstore (lv' := [(8, .long (((1000 : Int64) * (labs q2)) / q3.toInt64)), (7, .int q3), (5, .long q2), (0, .ref (ad 0)), (1, .int x1), (2, .long x2), (4, .int x4)]) hx hb dX7_worstLine_74 hl (by decide) rfl (fun ls hl => ?_)
        refine lv_lload hx hb dX7_worstLine_76 (lv_at hl 0 rfl) ?_
        refine lv_lload_n hx hb dX7_worstLine_78 rfl (lv_at hl 5 rfl) ?_
        refine W.lcmp hx hb dX7_worstLine_79 ?_
        refine lv_if_le (tgt := 89) hx hb dX7_worstLine_80 (by decide) (fun c6 => ?_) (fun c6 => ?_)
        · replace c6 := (lg_cmp_le _ _).mp c6
          replace h := gif_t c6 h
          refine lv_iinc (v := (x4 + (1 : Int32))) (lv' := [(4, .int (x4 + (1 : Int32))), (8, .long (((1000 : Int64) * (labs q2)) / q3.toInt64)), (7, .int q3), (5, .long q2), (0, .ref (ad 0)), (1, .int x1), (2, .long x2)]) hx hb dX7_worstLine_89 hl (k := 6) rfl rfl (by decide) rfl (fun ls hl => ?_)
          refine lv_goto (tgt := 9) hx hb dX7_worstLine_92 (by decide) ?_
          exact kc _ (Option.some.inj h).symm hM hS (lv_sub hl [4, 5, 6, 0] rfl)
        · replace c6 := fun w => c6 ((lg_cmp_le _ _).mpr w)
          replace h := gif_f c6 h
          refine lv_lload hx hb dX7_worstLine_83 (lv_at hl 0 rfl) ?_
          refine lv_lstore_n (lv' := [(2, .long (((1000 : Int64) * (labs q2)) / q3.toInt64)), (8, .long (((1000 : Int64) * (labs q2)) / q3.toInt64)), (7, .int q3), (5, .long q2), (0, .ref (ad 0)), (1, .int x1), (4, .int x4)]) hx hb dX7_worstLine_85 rfl hl (by decide) rfl (fun ls hl => ?_)
          refine lv_iload hx hb dX7_worstLine_86 (lv_at hl 6 rfl) ?_
          refine lv_istore_n (lv' := [(1, .int x4), (2, .long (((1000 : Int64) * (labs q2)) / q3.toInt64)), (8, .long (((1000 : Int64) * (labs q2)) / q3.toInt64)), (7, .int q3), (5, .long q2), (0, .ref (ad 0)), (4, .int x4)]) hx hb dX7_worstLine_88 rfl hl (by decide) rfl (fun ls hl => ?_)
          refine lv_iinc (v := (x4 + (1 : Int32))) (lv' := [(4, .int (x4 + (1 : Int32))), (1, .int x4), (2, .long (((1000 : Int64) * (labs q2)) / q3.toInt64)), (8, .long (((1000 : Int64) * (labs q2)) / q3.toInt64)), (7, .int q3), (5, .long q2), (0, .ref (ad 0))]) hx hb dX7_worstLine_89 hl (k := 6) rfl rfl (by decide) rfl (fun ls hl => ?_)
          refine lv_goto (tgt := 9) hx hb dX7_worstLine_92 (by decide) ?_
          exact kc _ (Option.some.inj h).symm hM hS (lv_sub hl [6, 1, 2, 0] rfl)
set_option maxHeartbeats 4000000 in
theorem wl_X7_worstLine_9 {p : Program} {l : Launch} {e : Env} {s : State} {m : MethodId} {args : Array Value} {below : List Frame} {meth : Method} {c : Code} {D : va_G} {cy : Nat → ClassId} {ad : Nat → Nat} {base : Nat}  {μ : gM} {r : Int32} {RES : Int32} (F : gF p s m meth c cX7_worstLine RX7 10 (some .int)) (E : gEnv l D cy ad base s) (kx : ∀ (t : Int32) {H : Heap} {locs : List Loc} {ls : Array Slot}, r = t → gW gFull D cy ad base μ H → va_S (gA base) s.heap H locs → lv_has ls 10 [(1, .int t)] → W p l e ({ frames := 4, cells := 0, slots := 0, locals := 94 } : Room) s m args below meth c H locs 0 0 (MQ below (gQ (some (.int RES)) gFull D cy ad base μ) args s 0 0 (gA base)) (F0 m 95 ls []))  : ∀ (n : Nat) (x1 : Int32) (x2 : Int64) (x4 : Int32), gloop (fun t => b_X7_worstLine_9  t.1 t.2.1 t.2.2 μ) n (x1, x2, x4) = some r → ∀ {H : Heap} {locs : List Loc} {ls : Array Slot}, gW gFull D cy ad base μ H → va_S (gA base) s.heap H locs → lv_has ls 10 [(0, .ref (ad 0)), (1, .int x1), (2, .long x2), (4, .int x4)] → W p l e ({ frames := 4, cells := 0, slots := 0, locals := 94 } : Room) s m args below meth c H locs 0 0 (MQ below (gQ (some (.int RES)) gFull D cy ad base μ) args s 0 0 (gA base)) (F0 m 9 ls []) := by
  intro n
  induction n with
  | zero =>
    intro x1 x2 x4 h
    exact (gloop_0 h).elim
  | succ n ih =>
    intro x1 x2 x4 h H locs ls hM hS hl
    obtain ⟨o, h0, hc, hq⟩ := gloop_s h
    have h1 : b_X7_worstLine_9 x1 x2 x4 μ = some o := h0
    exact wb_X7_worstLine_9 h1 F E (fun t H locs ls ho hM hS hl => ih t.1 t.2.1 t.2.2 (hc t ho) hM hS hl) (fun t H locs ls ho hM hS hl => kx t (hq _ ho).symm hM hS hl) hM hS hl
def f_X7_worstLine (μ : gM) : Option (Int32) :=
  Option.bind (gloop (fun t => b_X7_worstLine_9  t.1 t.2.1 t.2.2 μ) gFuel ((-1 : Int32), (-1 : Int64), (0 : Int32))) (fun q8 => some q8)
set_option maxHeartbeats 4000000 in
set_option maxRecDepth 100000 in
theorem c_X7_worstLine {l : Launch} {D : va_G} {cy : Nat → ClassId} {ad : Nat → Nat} {base : Nat}  {μ : gM} {RES : Int32} (h : f_X7_worstLine  μ = some RES) : Met l yX7_worstLine [.code yX7_worstLine cX7_worstLine 10 (some .int)] ({ frames := 4, cells := 0, slots := 0, locals := 94 } : Room) (va_Pc [.ref (ad 0)] (gB l gFull D cy ad base μ)) (gQ (some (.int RES)) gFull D cy ad base μ) 0 0 (gA base) := by
  refine Met.ofW (cc := cX7_worstLine) (maxL := 10) (ret := (some .int)) (by decide) rfl ?_
  intro p e s m args below meth c s₁ B hml0 hv
  obtain ⟨rfl, E, hM⟩ := hv
  have F : gF p s m meth c cX7_worstLine RX7 10 (some .int) := gF_of B hml0
  obtain ⟨hx, hb, hml, hown, hlocks, hr⟩ := id F
  have hS : va_S (gA base) s.heap s.heap [] := va_S.rf
  have hl := lv_entry ([.ref (ad 0)]) (n := 10) (Nat.le_of_ble_eq_true rfl)
  rw [lg_entry_eq]
  generalize (lg_sl ([.ref (ad 0)]) ++ List.replicate (10 - (lg_sl ([.ref (ad 0)])).length) Slot.unset).toArray = ls at hl ⊢
  have hl : lv_has ls 10 [(0, .ref (ad 0))] := hl
  unfold f_X7_worstLine at h
  refine lv_iconst (v := (-1 : Int32)) hx hb dX7_worstLine_0 (by decide) ?_
  refine lv_istore_n (lv' := [(1, .int (-1 : Int32)), (0, .ref (ad 0))]) hx hb dX7_worstLine_1 rfl hl (by decide) rfl (fun ls hl => ?_)
  refine lv_ldc2 hx hb hown (v := (-1 : Int64)) (E.kw kw_774) dX7_worstLine_2 ?_
  refine lv_lstore_n (lv' := [(2, .long (-1 : Int64)), (1, .int (-1 : Int32)), (0, .ref (ad 0))]) hx hb dX7_worstLine_5 rfl hl (by decide) rfl (fun ls hl => ?_)
  refine lv_iconst (v := (0 : Int32)) hx hb dX7_worstLine_6 (by decide) ?_
  refine lv_istore (lv' := [(4, .int (0 : Int32)), (2, .long (-1 : Int64)), (1, .int (-1 : Int32)), (0, .ref (ad 0))]) hx hb dX7_worstLine_7 hl (by decide) rfl (fun ls hl => ?_)
  obtain ⟨z9, h1, h⟩ := gbind_e h
  refine wl_X7_worstLine_9 F E (r := z9) (fun q8 H locs ls e1 hM hS hl => ?_) gFuel (-1 : Int32) (-1 : Int64) (0 : Int32) h1 hM hS (lv_sub hl [3, 2, 1, 0] rfl)
  replace e1 : z9 = q8 := e1
  rw [e1] at h
  refine lv_iload_n hx hb dX7_worstLine_95 rfl (lv_at hl 0 rfl) ?_
  obtain rfl := Option.some.inj h
  exact g_iret hx hb hr hlocks hM hS dX7_worstLine_96
def b_X7_mostMoved_20 (x1 : Int32) (x2 : Int64) (x4 : Int32) (μ : gM) : Option ((Int32 × Int64 × Int32) ⊕ (Int32)) :=
  if ((gi μ 34 1) ≤ x4) then some (.inr x1) else Option.bind (f_X0_settledHeight x4 μ) (fun q3 => if (q3 = (-9223372036854775808 : Int64)) then some (.inl (x1, x2, (x4 + (1 : Int32)))) else gchk (gIn x4 16) (if ((labs (q3 - (gl μ 21 x4.toNatClampNeg))) ≤ x2) then some (.inl (x1, x2, (x4 + (1 : Int32)))) else some (.inl (x4, (labs (q3 - (gl μ 21 x4.toNatClampNeg))), (x4 + (1 : Int32))))))
set_option maxHeartbeats 4000000 in
set_option maxRecDepth 100000 in
theorem wb_X7_mostMoved_20 {p : Program} {l : Launch} {e : Env} {s : State} {m : MethodId} {args : Array Value} {below : List Frame} {meth : Method} {c : Code} {D : va_G} {cy : Nat → ClassId} {ad : Nat → Nat} {base : Nat} {x1 : Int32} {x2 : Int64} {x4 : Int32} {μ : gM} {o : (Int32 × Int64 × Int32) ⊕ (Int32)} {RES : Int32 × gM} (h : b_X7_mostMoved_20 x1 x2 x4 μ = some o) (F : gF p s m meth c cX7_mostMoved RX7 9 (some .int)) (E : gEnv l D cy ad base s) (kc : ∀ (t : Int32 × Int64 × Int32) {H : Heap} {locs : List Loc} {ls : Array Slot}, o = .inl t → gW gFull D cy ad base μ H → va_S (gA base) s.heap H locs → lv_has ls 9 [(0, .ref (ad 0)), (1, .int t.1), (2, .long t.2.1), (4, .int t.2.2)] → W p l e ({ frames := 5, cells := 0, slots := 0, locals := 116 } : Room) s m args below meth c H locs 0 0 (MQ below (gQ (some (.int RES.1)) gFull D cy ad base RES.2) args s 0 0 (gA base)) (F0 m 20 ls [])) (kx : ∀ (t : Int32) {H : Heap} {locs : List Loc} {ls : Array Slot}, o = .inr t → gW gFull D cy ad base μ H → va_S (gA base) s.heap H locs → lv_has ls 9 [(1, .int t)] → W p l e ({ frames := 5, cells := 0, slots := 0, locals := 116 } : Room) s m args below meth c H locs 0 0 (MQ below (gQ (some (.int RES.1)) gFull D cy ad base RES.2) args s 0 0 (gA base)) (F0 m 89 ls []))  {H : Heap} {locs : List Loc} {ls : Array Slot} (hM : gW gFull D cy ad base μ H) (hS : va_S (gA base) s.heap H locs) (hl : lv_has ls 9 [(0, .ref (ad 0)), (1, .int x1), (2, .long x2), (4, .int x4)]) : W p l e ({ frames := 5, cells := 0, slots := 0, locals := 116 } : Room) s m args below meth c H locs 0 0 (MQ below (gQ (some (.int RES.1)) gFull D cy ad base RES.2) args s 0 0 (gA base)) (F0 m 20 ls []) := by
  obtain ⟨hx, hb, hml, hown, hlocks, hr⟩ := id F
  unfold b_X7_mostMoved_20 at h
  refine lv_iload hx hb dX7_mostMoved_20 (lv_at hl 3 rfl) ?_
  refine lv_aload_n hx hb dX7_mostMoved_22 rfl (lv_at hl 0 rfl) ?_
  refine gg_0_5 hx hb hown E hM hk_0 kw_463 dX7_mostMoved_23 ?_
  refine gg_34_1 hx hb hown E hM hk_34 kw_360 dX7_mostMoved_26 ?_
  refine lv_icmp_ge (tgt := 89) hx hb dX7_mostMoved_29 (by decide) (fun c2 => ?_) (fun c2 => ?_)
  · replace h := gif_t c2 h
    exact kx _ (Option.some.inj h).symm hM hS (lv_sub hl [1] rfl)
  · replace h := gif_f c2 h
    refine lv_aload_n hx hb dX7_mostMoved_32 rfl (lv_at hl 0 rfl) ?_
    refine gg_0_3 hx hb hown E hM hk_0 kw_461 dX7_mostMoved_33 ?_
    refine lv_iload hx hb dX7_mostMoved_36 (lv_at hl 3 rfl) ?_
    obtain ⟨q3, hq3, h⟩ := gbind_e h
    refine g_callV (As := [.int x4]) (rest := []) hx hb (hml.trans hl.1.symm) hown E hM hS hy_X0_settledHeight kw_797 (c_X0_settledHeight hq3) hk_20 dd_20 rfl rfl rfl (Nat.le_of_ble_eq_true rfl) ⟨Nat.le_of_ble_eq_true rfl, Nat.le_of_ble_eq_true rfl⟩ ⟨Nat.le_of_ble_eq_true rfl, Nat.le_of_ble_eq_true rfl⟩ dX7_mostMoved_38 (fun H locs hM hS => ?_)
    refine lv_lstore (lv' := [(5, .long q3), (0, .ref (ad 0)), (1, .int x1), (2, .long x2), (4, .int x4)]) hx hb dX7_mostMoved_41 hl (by decide) rfl (fun ls hl => ?_)
    refine lv_lload hx hb dX7_mostMoved_43 (lv_at hl 0 rfl) ?_
    refine lv_ldc2 hx hb hown (v := (-9223372036854775808 : Int64)) (E.kw kw_765) dX7_mostMoved_45 ?_
    refine W.lcmp hx hb dX7_mostMoved_48 ?_
    refine lv_if_eq (tgt := 83) hx hb dX7_mostMoved_49 (by decide) (fun c4 => ?_) (fun c4 => ?_)
    · replace c4 := (lg_cmp_eq _ _).mp c4
      replace h := gif_t c4 h
      refine lv_iinc (v := (x4 + (1 : Int32))) (lv' := [(4, .int (x4 + (1 : Int32))), (5, .long q3), (0, .ref (ad 0)), (1, .int x1), (2, .long x2)]) hx hb dX7_mostMoved_83 hl (k := 4) rfl rfl (by decide) rfl (fun ls hl => ?_)
      refine lv_goto (tgt := 20) hx hb dX7_mostMoved_86 (by decide) ?_
      exact kc _ (Option.some.inj h).symm hM hS (lv_sub hl [2, 3, 4, 0] rfl)
    · replace c4 := fun w => c4 ((lg_cmp_eq _ _).mpr w)
      replace h := gif_f c4 h
      refine lv_lload hx hb dX7_mostMoved_52 (lv_at hl 0 rfl) ?_
      refine lv_aload_n hx hb dX7_mostMoved_54 rfl (lv_at hl 1 rfl) ?_
      refine gg_0_3 hx hb hown E hM hk_0 kw_461 dX7_mostMoved_55 ?_
      refine gg_20_0 hx hb hown E hM hk_20 kw_281 dX7_mostMoved_58 ?_
      refine lv_iload hx hb dX7_mostMoved_61 (lv_at hl 4 rfl) ?_
      obtain ⟨c5, h⟩ := gchk_e h
      refine g_lald hx hb E hM hk_21 dd_21 c5 dX7_mostMoved_63 ?_
      refine lv_lsub hx hb dX7_mostMoved_64 ?_
      refine va_mabs_long hx hb (hml.trans hl.1.symm) hown (E.kw kw_790) (E.kw kw_791) (E.kw kw_119) (E.kw kw_792) (Nat.le_of_ble_eq_true rfl) (Nat.le_of_ble_eq_true rfl) (Nat.le_of_ble_eq_true rfl) (Nat.le_of_ble_eq_true rfl) dX7_mostMoved_65 ?_
      refine lv_lstore (lv' := [(7, .long (labs (q3 - (gl μ 21 x4.toNatClampNeg)))), (5, .long q3), (0, .ref (ad 0)), (1, .int x1), (2, .long x2), (4, .int x4)]) hx hb dX7_mostMoved_68 hl (by decide) rfl (fun ls hl => ?_)
      refine lv_lload hx hb dX7_mostMoved_70 (lv_at hl 0 rfl) ?_
      refine lv_lload_n hx hb dX7_mostMoved_72 rfl (lv_at hl 4 rfl) ?_
      refine W.lcmp hx hb dX7_mostMoved_73 ?_
      refine lv_if_le (tgt := 83) hx hb dX7_mostMoved_74 (by decide) (fun c6 => ?_) (fun c6 => ?_)
      · replace c6 := (lg_cmp_le _ _).mp c6
        replace h := gif_t c6 h
        refine lv_iinc (v := (x4 + (1 : Int32))) (lv' := [(4, .int (x4 + (1 : Int32))), (7, .long (labs (q3 - (gl μ 21 x4.toNatClampNeg)))), (5, .long q3), (0, .ref (ad 0)), (1, .int x1), (2, .long x2)]) hx hb dX7_mostMoved_83 hl (k := 5) rfl rfl (by decide) rfl (fun ls hl => ?_)
        refine lv_goto (tgt := 20) hx hb dX7_mostMoved_86 (by decide) ?_
        exact kc _ (Option.some.inj h).symm hM hS (lv_sub hl [3, 4, 5, 0] rfl)
      · replace c6 := fun w => c6 ((lg_cmp_le _ _).mpr w)
        replace h := gif_f c6 h
        refine lv_lload hx hb dX7_mostMoved_77 (lv_at hl 0 rfl) ?_
        refine lv_lstore_n (lv' := [(2, .long (labs (q3 - (gl μ 21 x4.toNatClampNeg)))), (7, .long (labs (q3 - (gl μ 21 x4.toNatClampNeg)))), (5, .long q3), (0, .ref (ad 0)), (1, .int x1), (4, .int x4)]) hx hb dX7_mostMoved_79 rfl hl (by decide) rfl (fun ls hl => ?_)
        refine lv_iload hx hb dX7_mostMoved_80 (lv_at hl 5 rfl) ?_
        refine lv_istore_n (lv' := [(1, .int x4), (2, .long (labs (q3 - (gl μ 21 x4.toNatClampNeg)))), (7, .long (labs (q3 - (gl μ 21 x4.toNatClampNeg)))), (5, .long q3), (0, .ref (ad 0)), (4, .int x4)]) hx hb dX7_mostMoved_82 rfl hl (by decide) rfl (fun ls hl => ?_)
        refine lv_iinc (v := (x4 + (1 : Int32))) (lv' := [(4, .int (x4 + (1 : Int32))), (1, .int x4), (2, .long (labs (q3 - (gl μ 21 x4.toNatClampNeg)))), (7, .long (labs (q3 - (gl μ 21 x4.toNatClampNeg)))), (5, .long q3), (0, .ref (ad 0))]) hx hb dX7_mostMoved_83 hl (k := 5) rfl rfl (by decide) rfl (fun ls hl => ?_)
        refine lv_goto (tgt := 20) hx hb dX7_mostMoved_86 (by decide) ?_
        exact kc _ (Option.some.inj h).symm hM hS (lv_sub hl [5, 1, 2, 0] rfl)
set_option maxHeartbeats 4000000 in
theorem wl_X7_mostMoved_20 {p : Program} {l : Launch} {e : Env} {s : State} {m : MethodId} {args : Array Value} {below : List Frame} {meth : Method} {c : Code} {D : va_G} {cy : Nat → ClassId} {ad : Nat → Nat} {base : Nat}  {μ : gM} {r : Int32} {RES : Int32 × gM} (F : gF p s m meth c cX7_mostMoved RX7 9 (some .int)) (E : gEnv l D cy ad base s) (kx : ∀ (t : Int32) {H : Heap} {locs : List Loc} {ls : Array Slot}, r = t → gW gFull D cy ad base μ H → va_S (gA base) s.heap H locs → lv_has ls 9 [(1, .int t)] → W p l e ({ frames := 5, cells := 0, slots := 0, locals := 116 } : Room) s m args below meth c H locs 0 0 (MQ below (gQ (some (.int RES.1)) gFull D cy ad base RES.2) args s 0 0 (gA base)) (F0 m 89 ls []))  : ∀ (n : Nat) (x1 : Int32) (x2 : Int64) (x4 : Int32), gloop (fun t => b_X7_mostMoved_20  t.1 t.2.1 t.2.2 μ) n (x1, x2, x4) = some r → ∀ {H : Heap} {locs : List Loc} {ls : Array Slot}, gW gFull D cy ad base μ H → va_S (gA base) s.heap H locs → lv_has ls 9 [(0, .ref (ad 0)), (1, .int x1), (2, .long x2), (4, .int x4)] → W p l e ({ frames := 5, cells := 0, slots := 0, locals := 116 } : Room) s m args below meth c H locs 0 0 (MQ below (gQ (some (.int RES.1)) gFull D cy ad base RES.2) args s 0 0 (gA base)) (F0 m 20 ls []) := by
  intro n
  induction n with
  | zero =>
    intro x1 x2 x4 h
    exact (gloop_0 h).elim
  | succ n ih =>
    intro x1 x2 x4 h H locs ls hM hS hl
    obtain ⟨o, h0, hc, hq⟩ := gloop_s h
    have h1 : b_X7_mostMoved_20 x1 x2 x4 μ = some o := h0
    exact wb_X7_mostMoved_20 h1 F E (fun t H locs ls ho hM hS hl => ih t.1 t.2.1 t.2.2 (hc t ho) hM hS hl) (fun t H locs ls ho hM hS hl => kx t (hq _ ho).symm hM hS hl) hM hS hl
def f_X7_mostMoved (μ : gM) : Option (Int32 × gM) :=
  Option.bind (f_X0_carry  μ) (fun q1 => Option.bind (gloop (fun t => b_X7_mostMoved_20  t.1 t.2.1 t.2.2 q1) gFuel ((-1 : Int32), (-1 : Int64), (0 : Int32))) (fun q7 => some (q7, q1)))
set_option maxHeartbeats 4000000 in
set_option maxRecDepth 100000 in
theorem c_X7_mostMoved {l : Launch} {D : va_G} {cy : Nat → ClassId} {ad : Nat → Nat} {base : Nat}  {μ : gM} {RES : Int32 × gM} (h : f_X7_mostMoved  μ = some RES) : Met l yX7_mostMoved [.code yX7_mostMoved cX7_mostMoved 9 (some .int)] ({ frames := 5, cells := 0, slots := 0, locals := 116 } : Room) (va_Pc [.ref (ad 0)] (gB l gFull D cy ad base μ)) (gQ (some (.int RES.1)) gFull D cy ad base RES.2) 0 0 (gA base) := by
  refine Met.ofW (cc := cX7_mostMoved) (maxL := 9) (ret := (some .int)) (by decide) rfl ?_
  intro p e s m args below meth c s₁ B hml0 hv
  obtain ⟨rfl, E, hM⟩ := hv
  have F : gF p s m meth c cX7_mostMoved RX7 9 (some .int) := gF_of B hml0
  obtain ⟨hx, hb, hml, hown, hlocks, hr⟩ := id F
  have hS : va_S (gA base) s.heap s.heap [] := va_S.rf
  have hl := lv_entry ([.ref (ad 0)]) (n := 9) (Nat.le_of_ble_eq_true rfl)
  rw [lg_entry_eq]
  generalize (lg_sl ([.ref (ad 0)]) ++ List.replicate (9 - (lg_sl ([.ref (ad 0)])).length) Slot.unset).toArray = ls at hl ⊢
  have hl : lv_has ls 9 [(0, .ref (ad 0))] := hl
  unfold f_X7_mostMoved at h
  refine lv_aload_n hx hb dX7_mostMoved_0 rfl (lv_at hl 0 rfl) ?_
  refine gg_0_3 hx hb hown E hM hk_0 kw_461 dX7_mostMoved_1 ?_
  refine lv_aload_n hx hb dX7_mostMoved_4 rfl (lv_at hl 0 rfl) ?_
  refine gg_0_5 hx hb hown E hM hk_0 kw_463 dX7_mostMoved_5 ?_
  obtain ⟨q1, hq1, h⟩ := gbind_e h
  refine g_callV (As := [.ref (ad 34)]) (rest := []) hx hb (hml.trans hl.1.symm) hown E hM hS hy_X0_carry kw_753 (c_X0_carry hq1) hk_20 dd_20 rfl rfl rfl (Nat.le_of_ble_eq_true rfl) ⟨Nat.le_of_ble_eq_true rfl, Nat.le_of_ble_eq_true rfl⟩ ⟨Nat.le_of_ble_eq_true rfl, Nat.le_of_ble_eq_true rfl⟩ dX7_mostMoved_8 (fun H locs hM hS => ?_)
  refine lv_iconst (v := (-1 : Int32)) hx hb dX7_mostMoved_11 (by decide) ?_
  refine lv_istore_n (lv' := [(1, .int (-1 : Int32)), (0, .ref (ad 0))]) hx hb dX7_mostMoved_12 rfl hl (by decide) rfl (fun ls hl => ?_)
  refine lv_ldc2 hx hb hown (v := (-1 : Int64)) (E.kw kw_774) dX7_mostMoved_13 ?_
  refine lv_lstore_n (lv' := [(2, .long (-1 : Int64)), (1, .int (-1 : Int32)), (0, .ref (ad 0))]) hx hb dX7_mostMoved_16 rfl hl (by decide) rfl (fun ls hl => ?_)
  refine lv_iconst (v := (0 : Int32)) hx hb dX7_mostMoved_17 (by decide) ?_
  refine lv_istore (lv' := [(4, .int (0 : Int32)), (2, .long (-1 : Int64)), (1, .int (-1 : Int32)), (0, .ref (ad 0))]) hx hb dX7_mostMoved_18 hl (by decide) rfl (fun ls hl => ?_)
  obtain ⟨z8, h1, h⟩ := gbind_e h
  refine wl_X7_mostMoved_20 F E (r := z8) (fun q7 H locs ls e1 hM hS hl => ?_) gFuel (-1 : Int32) (-1 : Int64) (0 : Int32) h1 hM hS (lv_sub hl [3, 2, 1, 0] rfl)
  replace e1 : z8 = q7 := e1
  rw [e1] at h
  refine lv_iload_n hx hb dX7_mostMoved_89 rfl (lv_at hl 0 rfl) ?_
  obtain rfl := Option.some.inj h
  exact g_iret hx hb hr hlocks hM hS dX7_mostMoved_90
def b_X7_residualSum_4 (x1 : Int64) (x3 : Int32) (μ : gM) : Option ((Int64 × Int32) ⊕ (Int64)) :=
  if ((gi μ 34 2) ≤ x3) then some (.inr x1) else Option.bind (f_X0_misfit x3 μ) (fun q2 => if (q2 = (-9223372036854775808 : Int64)) then some (.inl (x1, (x3 + (1 : Int32)))) else Option.bind (f_X3_lineWeight x3 μ) (fun q4 => some (.inl ((x1 + ((labs q2) * q4.toInt64)), (x3 + (1 : Int32))))))
set_option maxHeartbeats 4000000 in
set_option maxRecDepth 100000 in
theorem wb_X7_residualSum_4 {p : Program} {l : Launch} {e : Env} {s : State} {m : MethodId} {args : Array Value} {below : List Frame} {meth : Method} {c : Code} {D : va_G} {cy : Nat → ClassId} {ad : Nat → Nat} {base : Nat} {x1 : Int64} {x3 : Int32} {μ : gM} {o : (Int64 × Int32) ⊕ (Int64)} {RES : Int64} (h : b_X7_residualSum_4 x1 x3 μ = some o) (F : gF p s m meth c cX7_residualSum RX7 6 (some .long)) (E : gEnv l D cy ad base s) (kc : ∀ (t : Int64 × Int32) {H : Heap} {locs : List Loc} {ls : Array Slot}, o = .inl t → gW gFull D cy ad base μ H → va_S (gA base) s.heap H locs → lv_has ls 6 [(0, .ref (ad 0)), (1, .long t.1), (3, .int t.2)] → W p l e ({ frames := 4, cells := 0, slots := 0, locals := 94 } : Room) s m args below meth c H locs 0 0 (MQ below (gQ (some (.long RES)) gFull D cy ad base μ) args s 0 0 (gA base)) (F0 m 4 ls [])) (kx : ∀ (t : Int64) {H : Heap} {locs : List Loc} {ls : Array Slot}, o = .inr t → gW gFull D cy ad base μ H → va_S (gA base) s.heap H locs → lv_has ls 6 [(1, .long t)] → W p l e ({ frames := 4, cells := 0, slots := 0, locals := 94 } : Room) s m args below meth c H locs 0 0 (MQ below (gQ (some (.long RES)) gFull D cy ad base μ) args s 0 0 (gA base)) (F0 m 62 ls []))  {H : Heap} {locs : List Loc} {ls : Array Slot} (hM : gW gFull D cy ad base μ H) (hS : va_S (gA base) s.heap H locs) (hl : lv_has ls 6 [(0, .ref (ad 0)), (1, .long x1), (3, .int x3)]) : W p l e ({ frames := 4, cells := 0, slots := 0, locals := 94 } : Room) s m args below meth c H locs 0 0 (MQ below (gQ (some (.long RES)) gFull D cy ad base μ) args s 0 0 (gA base)) (F0 m 4 ls []) := by
  obtain ⟨hx, hb, hml, hown, hlocks, hr⟩ := id F
  unfold b_X7_residualSum_4 at h
  refine lv_iload_n hx hb dX7_residualSum_4 rfl (lv_at hl 2 rfl) ?_
  refine lv_aload_n hx hb dX7_residualSum_5 rfl (lv_at hl 0 rfl) ?_
  refine gg_0_5 hx hb hown E hM hk_0 kw_463 dX7_residualSum_6 ?_
  refine gg_34_2 hx hb hown E hM hk_34 kw_367 dX7_residualSum_9 ?_
  refine lv_icmp_ge (tgt := 62) hx hb dX7_residualSum_12 (by decide) (fun c1 => ?_) (fun c1 => ?_)
  · replace h := gif_t c1 h
    exact kx _ (Option.some.inj h).symm hM hS (lv_sub hl [1] rfl)
  · replace h := gif_f c1 h
    refine lv_aload_n hx hb dX7_residualSum_15 rfl (lv_at hl 0 rfl) ?_
    refine gg_0_3 hx hb hown E hM hk_0 kw_461 dX7_residualSum_16 ?_
    refine lv_aload_n hx hb dX7_residualSum_19 rfl (lv_at hl 0 rfl) ?_
    refine gg_0_5 hx hb hown E hM hk_0 kw_463 dX7_residualSum_20 ?_
    refine lv_iload_n hx hb dX7_residualSum_23 rfl (lv_at hl 2 rfl) ?_
    obtain ⟨q2, hq2, h⟩ := gbind_e h
    refine g_callV (As := [.ref (ad 34), .int x3]) (rest := []) hx hb (hml.trans hl.1.symm) hown E hM hS hy_X0_misfit kw_775 (c_X0_misfit hq2) hk_20 dd_20 rfl rfl rfl (Nat.le_of_ble_eq_true rfl) ⟨Nat.le_of_ble_eq_true rfl, Nat.le_of_ble_eq_true rfl⟩ ⟨Nat.le_of_ble_eq_true rfl, Nat.le_of_ble_eq_true rfl⟩ dX7_residualSum_24 (fun H locs hM hS => ?_)
    refine lv_lstore (lv' := [(4, .long q2), (0, .ref (ad 0)), (1, .long x1), (3, .int x3)]) hx hb dX7_residualSum_27 hl (by decide) rfl (fun ls hl => ?_)
    refine lv_lload hx hb dX7_residualSum_29 (lv_at hl 0 rfl) ?_
    refine lv_ldc2 hx hb hown (v := (-9223372036854775808 : Int64)) (E.kw kw_765) dX7_residualSum_31 ?_
    refine W.lcmp hx hb dX7_residualSum_34 ?_
    refine lv_if_eq (tgt := 56) hx hb dX7_residualSum_35 (by decide) (fun c3 => ?_) (fun c3 => ?_)
    · replace c3 := (lg_cmp_eq _ _).mp c3
      replace h := gif_t c3 h
      refine lv_iinc (v := (x3 + (1 : Int32))) (lv' := [(3, .int (x3 + (1 : Int32))), (4, .long q2), (0, .ref (ad 0)), (1, .long x1)]) hx hb dX7_residualSum_56 hl (k := 3) rfl rfl (by decide) rfl (fun ls hl => ?_)
      refine lv_goto (tgt := 4) hx hb dX7_residualSum_59 (by decide) ?_
      exact kc _ (Option.some.inj h).symm hM hS (lv_sub hl [2, 3, 0] rfl)
    · replace c3 := fun w => c3 ((lg_cmp_eq _ _).mpr w)
      replace h := gif_f c3 h
      refine lv_lload_n hx hb dX7_residualSum_38 rfl (lv_at hl 2 rfl) ?_
      refine lv_lload hx hb dX7_residualSum_39 (lv_at hl 0 rfl) ?_
      refine va_mabs_long hx hb (hml.trans hl.1.symm) hown (E.kw kw_790) (E.kw kw_791) (E.kw kw_119) (E.kw kw_792) (Nat.le_of_ble_eq_true rfl) (Nat.le_of_ble_eq_true rfl) (Nat.le_of_ble_eq_true rfl) (Nat.le_of_ble_eq_true rfl) dX7_residualSum_41 ?_
      refine lv_aload_n hx hb dX7_residualSum_44 rfl (lv_at hl 1 rfl) ?_
      refine gg_0_5 hx hb hown E hM hk_0 kw_463 dX7_residualSum_45 ?_
      refine lv_iload_n hx hb dX7_residualSum_48 rfl (lv_at hl 3 rfl) ?_
      obtain ⟨q4, hq4, h⟩ := gbind_e h
      refine g_callV (As := [.int x3]) (rest := [.long (labs q2), .long x1]) hx hb (hml.trans hl.1.symm) hown E hM hS hy_X3_lineWeight kw_802 (c_X3_lineWeight hq4) hk_34 dd_34 rfl rfl rfl (Nat.le_of_ble_eq_true rfl) ⟨Nat.le_of_ble_eq_true rfl, Nat.le_of_ble_eq_true rfl⟩ ⟨Nat.le_of_ble_eq_true rfl, Nat.le_of_ble_eq_true rfl⟩ dX7_residualSum_49 (fun H locs hM hS => ?_)
      refine lv_i2l (v := q4.toInt64) hx hb dX7_residualSum_52 rfl ?_
      refine lv_lmul hx hb dX7_residualSum_53 ?_
      refine lv_ladd hx hb dX7_residualSum_54 ?_
      refine lv_lstore_n (lv' := [(1, .long (x1 + ((labs q2) * q4.toInt64))), (4, .long q2), (0, .ref (ad 0)), (3, .int x3)]) hx hb dX7_residualSum_55 rfl hl (by decide) rfl (fun ls hl => ?_)
      refine lv_iinc (v := (x3 + (1 : Int32))) (lv' := [(3, .int (x3 + (1 : Int32))), (1, .long (x1 + ((labs q2) * q4.toInt64))), (4, .long q2), (0, .ref (ad 0))]) hx hb dX7_residualSum_56 hl (k := 3) rfl rfl (by decide) rfl (fun ls hl => ?_)
      refine lv_goto (tgt := 4) hx hb dX7_residualSum_59 (by decide) ?_
      exact kc _ (Option.some.inj h).symm hM hS (lv_sub hl [3, 1, 0] rfl)
set_option maxHeartbeats 4000000 in
theorem wl_X7_residualSum_4 {p : Program} {l : Launch} {e : Env} {s : State} {m : MethodId} {args : Array Value} {below : List Frame} {meth : Method} {c : Code} {D : va_G} {cy : Nat → ClassId} {ad : Nat → Nat} {base : Nat}  {μ : gM} {r : Int64} {RES : Int64} (F : gF p s m meth c cX7_residualSum RX7 6 (some .long)) (E : gEnv l D cy ad base s) (kx : ∀ (t : Int64) {H : Heap} {locs : List Loc} {ls : Array Slot}, r = t → gW gFull D cy ad base μ H → va_S (gA base) s.heap H locs → lv_has ls 6 [(1, .long t)] → W p l e ({ frames := 4, cells := 0, slots := 0, locals := 94 } : Room) s m args below meth c H locs 0 0 (MQ below (gQ (some (.long RES)) gFull D cy ad base μ) args s 0 0 (gA base)) (F0 m 62 ls []))  : ∀ (n : Nat) (x1 : Int64) (x3 : Int32), gloop (fun t => b_X7_residualSum_4  t.1 t.2 μ) n (x1, x3) = some r → ∀ {H : Heap} {locs : List Loc} {ls : Array Slot}, gW gFull D cy ad base μ H → va_S (gA base) s.heap H locs → lv_has ls 6 [(0, .ref (ad 0)), (1, .long x1), (3, .int x3)] → W p l e ({ frames := 4, cells := 0, slots := 0, locals := 94 } : Room) s m args below meth c H locs 0 0 (MQ below (gQ (some (.long RES)) gFull D cy ad base μ) args s 0 0 (gA base)) (F0 m 4 ls []) := by
  intro n
  induction n with
  | zero =>
    intro x1 x3 h
    exact (gloop_0 h).elim
  | succ n ih =>
    intro x1 x3 h H locs ls hM hS hl
    obtain ⟨o, h0, hc, hq⟩ := gloop_s h
    have h1 : b_X7_residualSum_4 x1 x3 μ = some o := h0
    exact wb_X7_residualSum_4 h1 F E (fun t H locs ls ho hM hS hl => ih t.1 t.2 (hc t ho) hM hS hl) (fun t H locs ls ho hM hS hl => kx t (hq _ ho).symm hM hS hl) hM hS hl
def f_X7_residualSum (μ : gM) : Option (Int64) :=
  Option.bind (gloop (fun t => b_X7_residualSum_4  t.1 t.2 μ) gFuel ((0 : Int64), (0 : Int32))) (fun q5 => some q5)
set_option maxHeartbeats 4000000 in
set_option maxRecDepth 100000 in
theorem c_X7_residualSum {l : Launch} {D : va_G} {cy : Nat → ClassId} {ad : Nat → Nat} {base : Nat}  {μ : gM} {RES : Int64} (h : f_X7_residualSum  μ = some RES) : Met l yX7_residualSum [.code yX7_residualSum cX7_residualSum 6 (some .long)] ({ frames := 4, cells := 0, slots := 0, locals := 94 } : Room) (va_Pc [.ref (ad 0)] (gB l gFull D cy ad base μ)) (gQ (some (.long RES)) gFull D cy ad base μ) 0 0 (gA base) := by
  refine Met.ofW (cc := cX7_residualSum) (maxL := 6) (ret := (some .long)) (by decide) rfl ?_
  intro p e s m args below meth c s₁ B hml0 hv
  obtain ⟨rfl, E, hM⟩ := hv
  have F : gF p s m meth c cX7_residualSum RX7 6 (some .long) := gF_of B hml0
  obtain ⟨hx, hb, hml, hown, hlocks, hr⟩ := id F
  have hS : va_S (gA base) s.heap s.heap [] := va_S.rf
  have hl := lv_entry ([.ref (ad 0)]) (n := 6) (Nat.le_of_ble_eq_true rfl)
  rw [lg_entry_eq]
  generalize (lg_sl ([.ref (ad 0)]) ++ List.replicate (6 - (lg_sl ([.ref (ad 0)])).length) Slot.unset).toArray = ls at hl ⊢
  have hl : lv_has ls 6 [(0, .ref (ad 0))] := hl
  unfold f_X7_residualSum at h
  refine lv_lconst (v := (0 : Int64)) hx hb dX7_residualSum_0 (by decide) ?_
  refine lv_lstore_n (lv' := [(1, .long (0 : Int64)), (0, .ref (ad 0))]) hx hb dX7_residualSum_1 rfl hl (by decide) rfl (fun ls hl => ?_)
  refine lv_iconst (v := (0 : Int32)) hx hb dX7_residualSum_2 (by decide) ?_
  refine lv_istore_n (lv' := [(3, .int (0 : Int32)), (1, .long (0 : Int64)), (0, .ref (ad 0))]) hx hb dX7_residualSum_3 rfl hl (by decide) rfl (fun ls hl => ?_)
  obtain ⟨z6, h1, h⟩ := gbind_e h
  refine wl_X7_residualSum_4 F E (r := z6) (fun q5 H locs ls e1 hM hS hl => ?_) gFuel (0 : Int64) (0 : Int32) h1 hM hS (lv_sub hl [2, 1, 0] rfl)
  replace e1 : z6 = q5 := e1
  rw [e1] at h
  refine lv_lload_n hx hb dX7_residualSum_62 rfl (lv_at hl 0 rfl) ?_
  obtain rfl := Option.some.inj h
  exact g_lret hx hb hr hlocks hM hS dX7_residualSum_63
def b_X7_redundancy_15 (x1 : Int32) (x2 : Int32) (μ : gM) : Option ((Int32 × Int32) ⊕ (Int32)) :=
  if ((gi μ 34 2) ≤ x2) then some (.inr x1) else Option.bind (f_X3_isActive x2 μ) (fun q3 => if ((b2i q3) = 0) then some (.inl (x1, (x2 + (1 : Int32)))) else gchk (gIn x2 20) (gchk (gIn (gi μ 40 x2.toNatClampNeg) 16) (if ((gl μ 21 (gi μ 40 x2.toNatClampNeg).toNatClampNeg) = (-9223372036854775808 : Int64)) then some (.inl (x1, (x2 + (1 : Int32)))) else gchk (gIn x2 20) (gchk (gIn (gi μ 41 x2.toNatClampNeg) 16) (if ((gl μ 21 (gi μ 41 x2.toNatClampNeg).toNatClampNeg) = (-9223372036854775808 : Int64)) then some (.inl (x1, (x2 + (1 : Int32)))) else some (.inl ((x1 + (1 : Int32)), (x2 + (1 : Int32)))))))))
set_option maxHeartbeats 4000000 in
set_option maxRecDepth 100000 in
theorem wb_X7_redundancy_15 {p : Program} {l : Launch} {e : Env} {s : State} {m : MethodId} {args : Array Value} {below : List Frame} {meth : Method} {c : Code} {D : va_G} {cy : Nat → ClassId} {ad : Nat → Nat} {base : Nat} {x1 : Int32} {x2 : Int32} {μ : gM} {o : (Int32 × Int32) ⊕ (Int32)} {RES : Int32 × gM} (h : b_X7_redundancy_15 x1 x2 μ = some o) (F : gF p s m meth c cX7_redundancy RX7 3 (some .int)) (E : gEnv l D cy ad base s) (kc : ∀ (t : Int32 × Int32) {H : Heap} {locs : List Loc} {ls : Array Slot}, o = .inl t → gW gFull D cy ad base μ H → va_S (gA base) s.heap H locs → lv_has ls 3 [(0, .ref (ad 0)), (1, .int t.1), (2, .int t.2)] → W p l e ({ frames := 5, cells := 0, slots := 0, locals := 116 } : Room) s m args below meth c H locs 0 0 (MQ below (gQ (some (.int RES.1)) gFull D cy ad base RES.2) args s 0 0 (gA base)) (F0 m 15 ls [])) (kx : ∀ (t : Int32) {H : Heap} {locs : List Loc} {ls : Array Slot}, o = .inr t → gW gFull D cy ad base μ H → va_S (gA base) s.heap H locs → lv_has ls 3 [(0, .ref (ad 0)), (1, .int t)] → W p l e ({ frames := 5, cells := 0, slots := 0, locals := 116 } : Room) s m args below meth c H locs 0 0 (MQ below (gQ (some (.int RES.1)) gFull D cy ad base RES.2) args s 0 0 (gA base)) (F0 m 94 ls []))  {H : Heap} {locs : List Loc} {ls : Array Slot} (hM : gW gFull D cy ad base μ H) (hS : va_S (gA base) s.heap H locs) (hl : lv_has ls 3 [(0, .ref (ad 0)), (1, .int x1), (2, .int x2)]) : W p l e ({ frames := 5, cells := 0, slots := 0, locals := 116 } : Room) s m args below meth c H locs 0 0 (MQ below (gQ (some (.int RES.1)) gFull D cy ad base RES.2) args s 0 0 (gA base)) (F0 m 15 ls []) := by
  obtain ⟨hx, hb, hml, hown, hlocks, hr⟩ := id F
  unfold b_X7_redundancy_15 at h
  refine lv_iload_n hx hb dX7_redundancy_15 rfl (lv_at hl 2 rfl) ?_
  refine lv_aload_n hx hb dX7_redundancy_16 rfl (lv_at hl 0 rfl) ?_
  refine gg_0_5 hx hb hown E hM hk_0 kw_463 dX7_redundancy_17 ?_
  refine gg_34_2 hx hb hown E hM hk_34 kw_367 dX7_redundancy_20 ?_
  refine lv_icmp_ge (tgt := 94) hx hb dX7_redundancy_23 (by decide) (fun c2 => ?_) (fun c2 => ?_)
  · replace h := gif_t c2 h
    exact kx _ (Option.some.inj h).symm hM hS (lv_sub hl [0, 1] rfl)
  · replace h := gif_f c2 h
    refine lv_aload_n hx hb dX7_redundancy_26 rfl (lv_at hl 0 rfl) ?_
    refine gg_0_5 hx hb hown E hM hk_0 kw_463 dX7_redundancy_27 ?_
    refine lv_iload_n hx hb dX7_redundancy_30 rfl (lv_at hl 2 rfl) ?_
    obtain ⟨q3, hq3, h⟩ := gbind_e h
    refine g_callV (As := [.int x2]) (rest := []) hx hb (hml.trans hl.1.symm) hown E hM hS hy_X3_isActive kw_812 (c_X3_isActive hq3) hk_34 dd_34 rfl rfl rfl (Nat.le_of_ble_eq_true rfl) ⟨Nat.le_of_ble_eq_true rfl, Nat.le_of_ble_eq_true rfl⟩ ⟨Nat.le_of_ble_eq_true rfl, Nat.le_of_ble_eq_true rfl⟩ dX7_redundancy_31 (fun H locs hM hS => ?_)
    refine lv_if_eq (tgt := 88) hx hb dX7_redundancy_34 (by decide) (fun c4 => ?_) (fun c4 => ?_)
    · replace h := gif_t c4 h
      refine lv_iinc (v := (x2 + (1 : Int32))) (lv' := [(2, .int (x2 + (1 : Int32))), (0, .ref (ad 0)), (1, .int x1)]) hx hb dX7_redundancy_88 hl (k := 2) rfl rfl (by decide) rfl (fun ls hl => ?_)
      refine lv_goto (tgt := 15) hx hb dX7_redundancy_91 (by decide) ?_
      exact kc _ (Option.some.inj h).symm hM hS (lv_sub hl [1, 2, 0] rfl)
    · replace h := gif_f c4 h
      refine lv_aload_n hx hb dX7_redundancy_37 rfl (lv_at hl 0 rfl) ?_
      refine gg_0_3 hx hb hown E hM hk_0 kw_461 dX7_redundancy_38 ?_
      refine gg_20_0 hx hb hown E hM hk_20 kw_281 dX7_redundancy_41 ?_
      refine lv_aload_n hx hb dX7_redundancy_44 rfl (lv_at hl 0 rfl) ?_
      refine gg_0_5 hx hb hown E hM hk_0 kw_463 dX7_redundancy_45 ?_
      refine gg_34_10 hx hb hown E hM hk_34 kw_400 dX7_redundancy_48 ?_
      refine lv_iload_n hx hb dX7_redundancy_51 rfl (lv_at hl 2 rfl) ?_
      obtain ⟨c5, h⟩ := gchk_e h
      refine g_iald hx hb E hM hk_40 dd_40 c5 dX7_redundancy_52 ?_
      obtain ⟨c6, h⟩ := gchk_e h
      refine g_lald hx hb E hM hk_21 dd_21 c6 dX7_redundancy_53 ?_
      refine lv_ldc2 hx hb hown (v := (-9223372036854775808 : Int64)) (E.kw kw_765) dX7_redundancy_54 ?_
      refine W.lcmp hx hb dX7_redundancy_57 ?_
      refine lv_if_eq (tgt := 88) hx hb dX7_redundancy_58 (by decide) (fun c7 => ?_) (fun c7 => ?_)
      · replace c7 := (lg_cmp_eq _ _).mp c7
        replace h := gif_t c7 h
        refine lv_iinc (v := (x2 + (1 : Int32))) (lv' := [(2, .int (x2 + (1 : Int32))), (0, .ref (ad 0)), (1, .int x1)]) hx hb dX7_redundancy_88 hl (k := 2) rfl rfl (by decide) rfl (fun ls hl => ?_)
        refine lv_goto (tgt := 15) hx hb dX7_redundancy_91 (by decide) ?_
        exact kc _ (Option.some.inj h).symm hM hS (lv_sub hl [1, 2, 0] rfl)
      · replace c7 := fun w => c7 ((lg_cmp_eq _ _).mpr w)
        replace h := gif_f c7 h
        refine lv_aload_n hx hb dX7_redundancy_61 rfl (lv_at hl 0 rfl) ?_
        refine gg_0_3 hx hb hown E hM hk_0 kw_461 dX7_redundancy_62 ?_
        refine gg_20_0 hx hb hown E hM hk_20 kw_281 dX7_redundancy_65 ?_
        refine lv_aload_n hx hb dX7_redundancy_68 rfl (lv_at hl 0 rfl) ?_
        refine gg_0_5 hx hb hown E hM hk_0 kw_463 dX7_redundancy_69 ?_
        refine gg_34_11 hx hb hown E hM hk_34 kw_406 dX7_redundancy_72 ?_
        refine lv_iload_n hx hb dX7_redundancy_75 rfl (lv_at hl 2 rfl) ?_
        obtain ⟨c8, h⟩ := gchk_e h
        refine g_iald hx hb E hM hk_41 dd_41 c8 dX7_redundancy_76 ?_
        obtain ⟨c9, h⟩ := gchk_e h
        refine g_lald hx hb E hM hk_21 dd_21 c9 dX7_redundancy_77 ?_
        refine lv_ldc2 hx hb hown (v := (-9223372036854775808 : Int64)) (E.kw kw_765) dX7_redundancy_78 ?_
        refine W.lcmp hx hb dX7_redundancy_81 ?_
        refine lv_if_eq (tgt := 88) hx hb dX7_redundancy_82 (by decide) (fun c10 => ?_) (fun c10 => ?_)
        · replace c10 := (lg_cmp_eq _ _).mp c10
          replace h := gif_t c10 h
          refine lv_iinc (v := (x2 + (1 : Int32))) (lv' := [(2, .int (x2 + (1 : Int32))), (0, .ref (ad 0)), (1, .int x1)]) hx hb dX7_redundancy_88 hl (k := 2) rfl rfl (by decide) rfl (fun ls hl => ?_)
          refine lv_goto (tgt := 15) hx hb dX7_redundancy_91 (by decide) ?_
          exact kc _ (Option.some.inj h).symm hM hS (lv_sub hl [1, 2, 0] rfl)
        · replace c10 := fun w => c10 ((lg_cmp_eq _ _).mpr w)
          replace h := gif_f c10 h
          refine lv_iinc (v := (x1 + (1 : Int32))) (lv' := [(1, .int (x1 + (1 : Int32))), (0, .ref (ad 0)), (2, .int x2)]) hx hb dX7_redundancy_85 hl (k := 1) rfl rfl (by decide) rfl (fun ls hl => ?_)
          refine lv_iinc (v := (x2 + (1 : Int32))) (lv' := [(2, .int (x2 + (1 : Int32))), (1, .int (x1 + (1 : Int32))), (0, .ref (ad 0))]) hx hb dX7_redundancy_88 hl (k := 2) rfl rfl (by decide) rfl (fun ls hl => ?_)
          refine lv_goto (tgt := 15) hx hb dX7_redundancy_91 (by decide) ?_
          exact kc _ (Option.some.inj h).symm hM hS (lv_sub hl [2, 1, 0] rfl)
set_option maxHeartbeats 4000000 in
theorem wl_X7_redundancy_15 {p : Program} {l : Launch} {e : Env} {s : State} {m : MethodId} {args : Array Value} {below : List Frame} {meth : Method} {c : Code} {D : va_G} {cy : Nat → ClassId} {ad : Nat → Nat} {base : Nat}  {μ : gM} {r : Int32} {RES : Int32 × gM} (F : gF p s m meth c cX7_redundancy RX7 3 (some .int)) (E : gEnv l D cy ad base s) (kx : ∀ (t : Int32) {H : Heap} {locs : List Loc} {ls : Array Slot}, r = t → gW gFull D cy ad base μ H → va_S (gA base) s.heap H locs → lv_has ls 3 [(0, .ref (ad 0)), (1, .int t)] → W p l e ({ frames := 5, cells := 0, slots := 0, locals := 116 } : Room) s m args below meth c H locs 0 0 (MQ below (gQ (some (.int RES.1)) gFull D cy ad base RES.2) args s 0 0 (gA base)) (F0 m 94 ls []))  : ∀ (n : Nat) (x1 : Int32) (x2 : Int32), gloop (fun t => b_X7_redundancy_15  t.1 t.2 μ) n (x1, x2) = some r → ∀ {H : Heap} {locs : List Loc} {ls : Array Slot}, gW gFull D cy ad base μ H → va_S (gA base) s.heap H locs → lv_has ls 3 [(0, .ref (ad 0)), (1, .int x1), (2, .int x2)] → W p l e ({ frames := 5, cells := 0, slots := 0, locals := 116 } : Room) s m args below meth c H locs 0 0 (MQ below (gQ (some (.int RES.1)) gFull D cy ad base RES.2) args s 0 0 (gA base)) (F0 m 15 ls []) := by
  intro n
  induction n with
  | zero =>
    intro x1 x2 h
    exact (gloop_0 h).elim
  | succ n ih =>
    intro x1 x2 h H locs ls hM hS hl
    obtain ⟨o, h0, hc, hq⟩ := gloop_s h
    have h1 : b_X7_redundancy_15 x1 x2 μ = some o := h0
    exact wb_X7_redundancy_15 h1 F E (fun t H locs ls ho hM hS hl => ih t.1 t.2 (hc t ho) hM hS hl) (fun t H locs ls ho hM hS hl => kx t (hq _ ho).symm hM hS hl) hM hS hl
def b_X7_redundancy_96 (x1 : Int32) (x2 : Int32) (μ : gM) : Option ((Int32 × Int32) ⊕ (Int32)) :=
  if ((gi μ 34 1) ≤ x2) then some (.inr x1) else gchk (gIn x2 16) (if ((gl μ 21 x2.toNatClampNeg) = (-9223372036854775808 : Int64)) then some (.inl (x1, (x2 + (1 : Int32)))) else gchk (gIn x2 16) (if ((gi μ 39 x2.toNatClampNeg) = (-1 : Int32)) then some (.inl ((x1 + (-1 : Int32)), (x2 + (1 : Int32)))) else some (.inl (x1, (x2 + (1 : Int32))))))
set_option maxHeartbeats 4000000 in
set_option maxRecDepth 100000 in
theorem wb_X7_redundancy_96 {p : Program} {l : Launch} {e : Env} {s : State} {m : MethodId} {args : Array Value} {below : List Frame} {meth : Method} {c : Code} {D : va_G} {cy : Nat → ClassId} {ad : Nat → Nat} {base : Nat} {x1 : Int32} {x2 : Int32} {μ : gM} {o : (Int32 × Int32) ⊕ (Int32)} {RES : Int32 × gM} (h : b_X7_redundancy_96 x1 x2 μ = some o) (F : gF p s m meth c cX7_redundancy RX7 3 (some .int)) (E : gEnv l D cy ad base s) (kc : ∀ (t : Int32 × Int32) {H : Heap} {locs : List Loc} {ls : Array Slot}, o = .inl t → gW gFull D cy ad base μ H → va_S (gA base) s.heap H locs → lv_has ls 3 [(0, .ref (ad 0)), (1, .int t.1), (2, .int t.2)] → W p l e ({ frames := 5, cells := 0, slots := 0, locals := 116 } : Room) s m args below meth c H locs 0 0 (MQ below (gQ (some (.int RES.1)) gFull D cy ad base RES.2) args s 0 0 (gA base)) (F0 m 96 ls [])) (kx : ∀ (t : Int32) {H : Heap} {locs : List Loc} {ls : Array Slot}, o = .inr t → gW gFull D cy ad base μ H → va_S (gA base) s.heap H locs → lv_has ls 3 [(1, .int t)] → W p l e ({ frames := 5, cells := 0, slots := 0, locals := 116 } : Room) s m args below meth c H locs 0 0 (MQ below (gQ (some (.int RES.1)) gFull D cy ad base RES.2) args s 0 0 (gA base)) (F0 m 145 ls []))  {H : Heap} {locs : List Loc} {ls : Array Slot} (hM : gW gFull D cy ad base μ H) (hS : va_S (gA base) s.heap H locs) (hl : lv_has ls 3 [(0, .ref (ad 0)), (1, .int x1), (2, .int x2)]) : W p l e ({ frames := 5, cells := 0, slots := 0, locals := 116 } : Room) s m args below meth c H locs 0 0 (MQ below (gQ (some (.int RES.1)) gFull D cy ad base RES.2) args s 0 0 (gA base)) (F0 m 96 ls []) := by
  obtain ⟨hx, hb, hml, hown, hlocks, hr⟩ := id F
  unfold b_X7_redundancy_96 at h
  refine lv_iload_n hx hb dX7_redundancy_96 rfl (lv_at hl 2 rfl) ?_
  refine lv_aload_n hx hb dX7_redundancy_97 rfl (lv_at hl 0 rfl) ?_
  refine gg_0_5 hx hb hown E hM hk_0 kw_463 dX7_redundancy_98 ?_
  refine gg_34_1 hx hb hown E hM hk_34 kw_360 dX7_redundancy_101 ?_
  refine lv_icmp_ge (tgt := 145) hx hb dX7_redundancy_104 (by decide) (fun c12 => ?_) (fun c12 => ?_)
  · replace h := gif_t c12 h
    exact kx _ (Option.some.inj h).symm hM hS (lv_sub hl [1] rfl)
  · replace h := gif_f c12 h
    refine lv_aload_n hx hb dX7_redundancy_107 rfl (lv_at hl 0 rfl) ?_
    refine gg_0_3 hx hb hown E hM hk_0 kw_461 dX7_redundancy_108 ?_
    refine gg_20_0 hx hb hown E hM hk_20 kw_281 dX7_redundancy_111 ?_
    refine lv_iload_n hx hb dX7_redundancy_114 rfl (lv_at hl 2 rfl) ?_
    obtain ⟨c13, h⟩ := gchk_e h
    refine g_lald hx hb E hM hk_21 dd_21 c13 dX7_redundancy_115 ?_
    refine lv_ldc2 hx hb hown (v := (-9223372036854775808 : Int64)) (E.kw kw_765) dX7_redundancy_116 ?_
    refine W.lcmp hx hb dX7_redundancy_119 ?_
    refine lv_if_eq (tgt := 139) hx hb dX7_redundancy_120 (by decide) (fun c14 => ?_) (fun c14 => ?_)
    · replace c14 := (lg_cmp_eq _ _).mp c14
      replace h := gif_t c14 h
      refine lv_iinc (v := (x2 + (1 : Int32))) (lv' := [(2, .int (x2 + (1 : Int32))), (0, .ref (ad 0)), (1, .int x1)]) hx hb dX7_redundancy_139 hl (k := 2) rfl rfl (by decide) rfl (fun ls hl => ?_)
      refine lv_goto (tgt := 96) hx hb dX7_redundancy_142 (by decide) ?_
      exact kc _ (Option.some.inj h).symm hM hS (lv_sub hl [1, 2, 0] rfl)
    · replace c14 := fun w => c14 ((lg_cmp_eq _ _).mpr w)
      replace h := gif_f c14 h
      refine lv_aload_n hx hb dX7_redundancy_123 rfl (lv_at hl 0 rfl) ?_
      refine gg_0_5 hx hb hown E hM hk_0 kw_463 dX7_redundancy_124 ?_
      refine gg_34_9 hx hb hown E hM hk_34 kw_394 dX7_redundancy_127 ?_
      refine lv_iload_n hx hb dX7_redundancy_130 rfl (lv_at hl 2 rfl) ?_
      obtain ⟨c15, h⟩ := gchk_e h
      refine g_iald hx hb E hM hk_39 dd_39 c15 dX7_redundancy_131 ?_
      refine lv_iconst (v := (-1 : Int32)) hx hb dX7_redundancy_132 (by decide) ?_
      refine lv_icmp_ne (tgt := 139) hx hb dX7_redundancy_133 (by decide) (fun c16 => ?_) (fun c16 => ?_)
      · replace h := gif_f c16 h
        refine lv_iinc (v := (x2 + (1 : Int32))) (lv' := [(2, .int (x2 + (1 : Int32))), (0, .ref (ad 0)), (1, .int x1)]) hx hb dX7_redundancy_139 hl (k := 2) rfl rfl (by decide) rfl (fun ls hl => ?_)
        refine lv_goto (tgt := 96) hx hb dX7_redundancy_142 (by decide) ?_
        exact kc _ (Option.some.inj h).symm hM hS (lv_sub hl [1, 2, 0] rfl)
      · replace h := gif_t c16 h
        refine lv_iinc (v := (x1 + (-1 : Int32))) (lv' := [(1, .int (x1 + (-1 : Int32))), (0, .ref (ad 0)), (2, .int x2)]) hx hb dX7_redundancy_136 hl (k := 1) rfl rfl (by decide) rfl (fun ls hl => ?_)
        refine lv_iinc (v := (x2 + (1 : Int32))) (lv' := [(2, .int (x2 + (1 : Int32))), (1, .int (x1 + (-1 : Int32))), (0, .ref (ad 0))]) hx hb dX7_redundancy_139 hl (k := 2) rfl rfl (by decide) rfl (fun ls hl => ?_)
        refine lv_goto (tgt := 96) hx hb dX7_redundancy_142 (by decide) ?_
        exact kc _ (Option.some.inj h).symm hM hS (lv_sub hl [2, 1, 0] rfl)
set_option maxHeartbeats 4000000 in
theorem wl_X7_redundancy_96 {p : Program} {l : Launch} {e : Env} {s : State} {m : MethodId} {args : Array Value} {below : List Frame} {meth : Method} {c : Code} {D : va_G} {cy : Nat → ClassId} {ad : Nat → Nat} {base : Nat}  {μ : gM} {r : Int32} {RES : Int32 × gM} (F : gF p s m meth c cX7_redundancy RX7 3 (some .int)) (E : gEnv l D cy ad base s) (kx : ∀ (t : Int32) {H : Heap} {locs : List Loc} {ls : Array Slot}, r = t → gW gFull D cy ad base μ H → va_S (gA base) s.heap H locs → lv_has ls 3 [(1, .int t)] → W p l e ({ frames := 5, cells := 0, slots := 0, locals := 116 } : Room) s m args below meth c H locs 0 0 (MQ below (gQ (some (.int RES.1)) gFull D cy ad base RES.2) args s 0 0 (gA base)) (F0 m 145 ls []))  : ∀ (n : Nat) (x1 : Int32) (x2 : Int32), gloop (fun t => b_X7_redundancy_96  t.1 t.2 μ) n (x1, x2) = some r → ∀ {H : Heap} {locs : List Loc} {ls : Array Slot}, gW gFull D cy ad base μ H → va_S (gA base) s.heap H locs → lv_has ls 3 [(0, .ref (ad 0)), (1, .int x1), (2, .int x2)] → W p l e ({ frames := 5, cells := 0, slots := 0, locals := 116 } : Room) s m args below meth c H locs 0 0 (MQ below (gQ (some (.int RES.1)) gFull D cy ad base RES.2) args s 0 0 (gA base)) (F0 m 96 ls []) := by
  intro n
  induction n with
  | zero =>
    intro x1 x2 h
    exact (gloop_0 h).elim
  | succ n ih =>
    intro x1 x2 h H locs ls hM hS hl
    obtain ⟨o, h0, hc, hq⟩ := gloop_s h
    have h1 : b_X7_redundancy_96 x1 x2 μ = some o := h0
    exact wb_X7_redundancy_96 h1 F E (fun t H locs ls ho hM hS hl => ih t.1 t.2 (hc t ho) hM hS hl) (fun t H locs ls ho hM hS hl => kx t (hq _ ho).symm hM hS hl) hM hS hl
def f_X7_redundancy (μ : gM) : Option (Int32 × gM) :=
  Option.bind (f_X0_carry  μ) (fun q1 => Option.bind (gloop (fun t => b_X7_redundancy_15  t.1 t.2 q1) gFuel ((0 : Int32), (0 : Int32))) (fun q11 => Option.bind (gloop (fun t => b_X7_redundancy_96  t.1 t.2 q1) gFuel (q11, (0 : Int32))) (fun q17 => some (q17, q1))))
set_option maxHeartbeats 4000000 in
set_option maxRecDepth 100000 in
theorem c_X7_redundancy {l : Launch} {D : va_G} {cy : Nat → ClassId} {ad : Nat → Nat} {base : Nat}  {μ : gM} {RES : Int32 × gM} (h : f_X7_redundancy  μ = some RES) : Met l yX7_redundancy [.code yX7_redundancy cX7_redundancy 3 (some .int)] ({ frames := 5, cells := 0, slots := 0, locals := 116 } : Room) (va_Pc [.ref (ad 0)] (gB l gFull D cy ad base μ)) (gQ (some (.int RES.1)) gFull D cy ad base RES.2) 0 0 (gA base) := by
  refine Met.ofW (cc := cX7_redundancy) (maxL := 3) (ret := (some .int)) (by decide) rfl ?_
  intro p e s m args below meth c s₁ B hml0 hv
  obtain ⟨rfl, E, hM⟩ := hv
  have F : gF p s m meth c cX7_redundancy RX7 3 (some .int) := gF_of B hml0
  obtain ⟨hx, hb, hml, hown, hlocks, hr⟩ := id F
  have hS : va_S (gA base) s.heap s.heap [] := va_S.rf
  have hl := lv_entry ([.ref (ad 0)]) (n := 3) (Nat.le_of_ble_eq_true rfl)
  rw [lg_entry_eq]
  generalize (lg_sl ([.ref (ad 0)]) ++ List.replicate (3 - (lg_sl ([.ref (ad 0)])).length) Slot.unset).toArray = ls at hl ⊢
  have hl : lv_has ls 3 [(0, .ref (ad 0))] := hl
  unfold f_X7_redundancy at h
  refine lv_aload_n hx hb dX7_redundancy_0 rfl (lv_at hl 0 rfl) ?_
  refine gg_0_3 hx hb hown E hM hk_0 kw_461 dX7_redundancy_1 ?_
  refine lv_aload_n hx hb dX7_redundancy_4 rfl (lv_at hl 0 rfl) ?_
  refine gg_0_5 hx hb hown E hM hk_0 kw_463 dX7_redundancy_5 ?_
  obtain ⟨q1, hq1, h⟩ := gbind_e h
  refine g_callV (As := [.ref (ad 34)]) (rest := []) hx hb (hml.trans hl.1.symm) hown E hM hS hy_X0_carry kw_753 (c_X0_carry hq1) hk_20 dd_20 rfl rfl rfl (Nat.le_of_ble_eq_true rfl) ⟨Nat.le_of_ble_eq_true rfl, Nat.le_of_ble_eq_true rfl⟩ ⟨Nat.le_of_ble_eq_true rfl, Nat.le_of_ble_eq_true rfl⟩ dX7_redundancy_8 (fun H locs hM hS => ?_)
  refine lv_iconst (v := (0 : Int32)) hx hb dX7_redundancy_11 (by decide) ?_
  refine lv_istore_n (lv' := [(1, .int (0 : Int32)), (0, .ref (ad 0))]) hx hb dX7_redundancy_12 rfl hl (by decide) rfl (fun ls hl => ?_)
  refine lv_iconst (v := (0 : Int32)) hx hb dX7_redundancy_13 (by decide) ?_
  refine lv_istore_n (lv' := [(2, .int (0 : Int32)), (1, .int (0 : Int32)), (0, .ref (ad 0))]) hx hb dX7_redundancy_14 rfl hl (by decide) rfl (fun ls hl => ?_)
  obtain ⟨z19, h1, h⟩ := gbind_e h
  refine wl_X7_redundancy_15 F E (r := z19) (fun q11 H locs ls e1 hM hS hl => ?_) gFuel (0 : Int32) (0 : Int32) h1 hM hS (lv_sub hl [2, 1, 0] rfl)
  replace e1 : z19 = q11 := e1
  rw [e1] at h
  refine lv_iconst (v := (0 : Int32)) hx hb dX7_redundancy_94 (by decide) ?_
  refine lv_istore_n (lv' := [(2, .int (0 : Int32)), (0, .ref (ad 0)), (1, .int q11)]) hx hb dX7_redundancy_95 rfl hl (by decide) rfl (fun ls hl => ?_)
  obtain ⟨z18, h1, h⟩ := gbind_e h
  refine wl_X7_redundancy_96 F E (r := z18) (fun q17 H locs ls e1 hM hS hl => ?_) gFuel q11 (0 : Int32) h1 hM hS (lv_sub hl [1, 2, 0] rfl)
  replace e1 : z18 = q17 := e1
  rw [e1] at h
  refine lv_iload_n hx hb dX7_redundancy_145 rfl (lv_at hl 0 rfl) ?_
  obtain rfl := Option.some.inj h
  exact g_iret hx hb hr hlocks hM hS dX7_redundancy_146
def b_X7_totalLength_4 (x1 : Int32) (x2 : Int32) (μ : gM) : Option ((Int32 × Int32) ⊕ (Int32)) :=
  if ((gi μ 34 2) ≤ x2) then some (.inr x1) else Option.bind (f_X3_isActive x2 μ) (fun q2 => if ((b2i q2) = 0) then some (.inl (x1, (x2 + (1 : Int32)))) else Option.bind (f_X3_lineLength x2 μ) (fun q4 => some (.inl ((x1 + q4), (x2 + (1 : Int32))))))
set_option maxHeartbeats 4000000 in
set_option maxRecDepth 100000 in
theorem wb_X7_totalLength_4 {p : Program} {l : Launch} {e : Env} {s : State} {m : MethodId} {args : Array Value} {below : List Frame} {meth : Method} {c : Code} {D : va_G} {cy : Nat → ClassId} {ad : Nat → Nat} {base : Nat} {x1 : Int32} {x2 : Int32} {μ : gM} {o : (Int32 × Int32) ⊕ (Int32)} {RES : Int32} (h : b_X7_totalLength_4 x1 x2 μ = some o) (F : gF p s m meth c cX7_totalLength RX7 3 (some .int)) (E : gEnv l D cy ad base s) (kc : ∀ (t : Int32 × Int32) {H : Heap} {locs : List Loc} {ls : Array Slot}, o = .inl t → gW gFull D cy ad base μ H → va_S (gA base) s.heap H locs → lv_has ls 3 [(0, .ref (ad 0)), (1, .int t.1), (2, .int t.2)] → W p l e ({ frames := 2, cells := 0, slots := 0, locals := 46 } : Room) s m args below meth c H locs 0 0 (MQ below (gQ (some (.int RES)) gFull D cy ad base μ) args s 0 0 (gA base)) (F0 m 4 ls [])) (kx : ∀ (t : Int32) {H : Heap} {locs : List Loc} {ls : Array Slot}, o = .inr t → gW gFull D cy ad base μ H → va_S (gA base) s.heap H locs → lv_has ls 3 [(1, .int t)] → W p l e ({ frames := 2, cells := 0, slots := 0, locals := 46 } : Room) s m args below meth c H locs 0 0 (MQ below (gQ (some (.int RES)) gFull D cy ad base μ) args s 0 0 (gA base)) (F0 m 43 ls []))  {H : Heap} {locs : List Loc} {ls : Array Slot} (hM : gW gFull D cy ad base μ H) (hS : va_S (gA base) s.heap H locs) (hl : lv_has ls 3 [(0, .ref (ad 0)), (1, .int x1), (2, .int x2)]) : W p l e ({ frames := 2, cells := 0, slots := 0, locals := 46 } : Room) s m args below meth c H locs 0 0 (MQ below (gQ (some (.int RES)) gFull D cy ad base μ) args s 0 0 (gA base)) (F0 m 4 ls []) := by
  obtain ⟨hx, hb, hml, hown, hlocks, hr⟩ := id F
  unfold b_X7_totalLength_4 at h
  refine lv_iload_n hx hb dX7_totalLength_4 rfl (lv_at hl 2 rfl) ?_
  refine lv_aload_n hx hb dX7_totalLength_5 rfl (lv_at hl 0 rfl) ?_
  refine gg_0_5 hx hb hown E hM hk_0 kw_463 dX7_totalLength_6 ?_
  refine gg_34_2 hx hb hown E hM hk_34 kw_367 dX7_totalLength_9 ?_
  refine lv_icmp_ge (tgt := 43) hx hb dX7_totalLength_12 (by decide) (fun c1 => ?_) (fun c1 => ?_)
  · replace h := gif_t c1 h
    exact kx _ (Option.some.inj h).symm hM hS (lv_sub hl [1] rfl)
  · replace h := gif_f c1 h
    refine lv_aload_n hx hb dX7_totalLength_15 rfl (lv_at hl 0 rfl) ?_
    refine gg_0_5 hx hb hown E hM hk_0 kw_463 dX7_totalLength_16 ?_
    refine lv_iload_n hx hb dX7_totalLength_19 rfl (lv_at hl 2 rfl) ?_
    obtain ⟨q2, hq2, h⟩ := gbind_e h
    refine g_callV (As := [.int x2]) (rest := []) hx hb (hml.trans hl.1.symm) hown E hM hS hy_X3_isActive kw_812 (c_X3_isActive hq2) hk_34 dd_34 rfl rfl rfl (Nat.le_of_ble_eq_true rfl) ⟨Nat.le_of_ble_eq_true rfl, Nat.le_of_ble_eq_true rfl⟩ ⟨Nat.le_of_ble_eq_true rfl, Nat.le_of_ble_eq_true rfl⟩ dX7_totalLength_20 (fun H locs hM hS => ?_)
    refine lv_if_eq (tgt := 37) hx hb dX7_totalLength_23 (by decide) (fun c3 => ?_) (fun c3 => ?_)
    · replace h := gif_t c3 h
      refine lv_iinc (v := (x2 + (1 : Int32))) (lv' := [(2, .int (x2 + (1 : Int32))), (0, .ref (ad 0)), (1, .int x1)]) hx hb dX7_totalLength_37 hl (k := 2) rfl rfl (by decide) rfl (fun ls hl => ?_)
      refine lv_goto (tgt := 4) hx hb dX7_totalLength_40 (by decide) ?_
      exact kc _ (Option.some.inj h).symm hM hS (lv_sub hl [1, 2, 0] rfl)
    · replace h := gif_f c3 h
      refine lv_iload_n hx hb dX7_totalLength_26 rfl (lv_at hl 1 rfl) ?_
      refine lv_aload_n hx hb dX7_totalLength_27 rfl (lv_at hl 0 rfl) ?_
      refine gg_0_5 hx hb hown E hM hk_0 kw_463 dX7_totalLength_28 ?_
      refine lv_iload_n hx hb dX7_totalLength_31 rfl (lv_at hl 2 rfl) ?_
      obtain ⟨q4, hq4, h⟩ := gbind_e h
      refine g_callV (As := [.int x2]) (rest := [.int x1]) hx hb (hml.trans hl.1.symm) hown E hM hS hy_X3_lineLength kw_788 (c_X3_lineLength hq4) hk_34 dd_34 rfl rfl rfl (Nat.le_of_ble_eq_true rfl) ⟨Nat.le_of_ble_eq_true rfl, Nat.le_of_ble_eq_true rfl⟩ ⟨Nat.le_of_ble_eq_true rfl, Nat.le_of_ble_eq_true rfl⟩ dX7_totalLength_32 (fun H locs hM hS => ?_)
      refine lv_iadd hx hb dX7_totalLength_35 ?_
      refine lv_istore_n (lv' := [(1, .int (x1 + q4)), (0, .ref (ad 0)), (2, .int x2)]) hx hb dX7_totalLength_36 rfl hl (by decide) rfl (fun ls hl => ?_)
      refine lv_iinc (v := (x2 + (1 : Int32))) (lv' := [(2, .int (x2 + (1 : Int32))), (1, .int (x1 + q4)), (0, .ref (ad 0))]) hx hb dX7_totalLength_37 hl (k := 2) rfl rfl (by decide) rfl (fun ls hl => ?_)
      refine lv_goto (tgt := 4) hx hb dX7_totalLength_40 (by decide) ?_
      exact kc _ (Option.some.inj h).symm hM hS (lv_sub hl [2, 1, 0] rfl)
set_option maxHeartbeats 4000000 in
theorem wl_X7_totalLength_4 {p : Program} {l : Launch} {e : Env} {s : State} {m : MethodId} {args : Array Value} {below : List Frame} {meth : Method} {c : Code} {D : va_G} {cy : Nat → ClassId} {ad : Nat → Nat} {base : Nat}  {μ : gM} {r : Int32} {RES : Int32} (F : gF p s m meth c cX7_totalLength RX7 3 (some .int)) (E : gEnv l D cy ad base s) (kx : ∀ (t : Int32) {H : Heap} {locs : List Loc} {ls : Array Slot}, r = t → gW gFull D cy ad base μ H → va_S (gA base) s.heap H locs → lv_has ls 3 [(1, .int t)] → W p l e ({ frames := 2, cells := 0, slots := 0, locals := 46 } : Room) s m args below meth c H locs 0 0 (MQ below (gQ (some (.int RES)) gFull D cy ad base μ) args s 0 0 (gA base)) (F0 m 43 ls []))  : ∀ (n : Nat) (x1 : Int32) (x2 : Int32), gloop (fun t => b_X7_totalLength_4  t.1 t.2 μ) n (x1, x2) = some r → ∀ {H : Heap} {locs : List Loc} {ls : Array Slot}, gW gFull D cy ad base μ H → va_S (gA base) s.heap H locs → lv_has ls 3 [(0, .ref (ad 0)), (1, .int x1), (2, .int x2)] → W p l e ({ frames := 2, cells := 0, slots := 0, locals := 46 } : Room) s m args below meth c H locs 0 0 (MQ below (gQ (some (.int RES)) gFull D cy ad base μ) args s 0 0 (gA base)) (F0 m 4 ls []) := by
  intro n
  induction n with
  | zero =>
    intro x1 x2 h
    exact (gloop_0 h).elim
  | succ n ih =>
    intro x1 x2 h H locs ls hM hS hl
    obtain ⟨o, h0, hc, hq⟩ := gloop_s h
    have h1 : b_X7_totalLength_4 x1 x2 μ = some o := h0
    exact wb_X7_totalLength_4 h1 F E (fun t H locs ls ho hM hS hl => ih t.1 t.2 (hc t ho) hM hS hl) (fun t H locs ls ho hM hS hl => kx t (hq _ ho).symm hM hS hl) hM hS hl
def f_X7_totalLength (μ : gM) : Option (Int32) :=
  Option.bind (gloop (fun t => b_X7_totalLength_4  t.1 t.2 μ) gFuel ((0 : Int32), (0 : Int32))) (fun q5 => some q5)
set_option maxHeartbeats 4000000 in
set_option maxRecDepth 100000 in
theorem c_X7_totalLength {l : Launch} {D : va_G} {cy : Nat → ClassId} {ad : Nat → Nat} {base : Nat}  {μ : gM} {RES : Int32} (h : f_X7_totalLength  μ = some RES) : Met l yX7_totalLength [.code yX7_totalLength cX7_totalLength 3 (some .int)] ({ frames := 2, cells := 0, slots := 0, locals := 46 } : Room) (va_Pc [.ref (ad 0)] (gB l gFull D cy ad base μ)) (gQ (some (.int RES)) gFull D cy ad base μ) 0 0 (gA base) := by
  refine Met.ofW (cc := cX7_totalLength) (maxL := 3) (ret := (some .int)) (by decide) rfl ?_
  intro p e s m args below meth c s₁ B hml0 hv
  obtain ⟨rfl, E, hM⟩ := hv
  have F : gF p s m meth c cX7_totalLength RX7 3 (some .int) := gF_of B hml0
  obtain ⟨hx, hb, hml, hown, hlocks, hr⟩ := id F
  have hS : va_S (gA base) s.heap s.heap [] := va_S.rf
  have hl := lv_entry ([.ref (ad 0)]) (n := 3) (Nat.le_of_ble_eq_true rfl)
  rw [lg_entry_eq]
  generalize (lg_sl ([.ref (ad 0)]) ++ List.replicate (3 - (lg_sl ([.ref (ad 0)])).length) Slot.unset).toArray = ls at hl ⊢
  have hl : lv_has ls 3 [(0, .ref (ad 0))] := hl
  unfold f_X7_totalLength at h
  refine lv_iconst (v := (0 : Int32)) hx hb dX7_totalLength_0 (by decide) ?_
  refine lv_istore_n (lv' := [(1, .int (0 : Int32)), (0, .ref (ad 0))]) hx hb dX7_totalLength_1 rfl hl (by decide) rfl (fun ls hl => ?_)
  refine lv_iconst (v := (0 : Int32)) hx hb dX7_totalLength_2 (by decide) ?_
  refine lv_istore_n (lv' := [(2, .int (0 : Int32)), (1, .int (0 : Int32)), (0, .ref (ad 0))]) hx hb dX7_totalLength_3 rfl hl (by decide) rfl (fun ls hl => ?_)
  obtain ⟨z6, h1, h⟩ := gbind_e h
  refine wl_X7_totalLength_4 F E (r := z6) (fun q5 H locs ls e1 hM hS hl => ?_) gFuel (0 : Int32) (0 : Int32) h1 hM hS (lv_sub hl [2, 1, 0] rfl)
  replace e1 : z6 = q5 := e1
  rw [e1] at h
  refine lv_iload_n hx hb dX7_totalLength_43 rfl (lv_at hl 0 rfl) ?_
  obtain rfl := Option.some.inj h
  exact g_iret hx hb hr hlocks hM hS dX7_totalLength_44
def f_X7_keepBefore (p1 : Int32) (p2 : Int32) (p3 : Int32) (μ : gM) : Option (gM) :=
  Option.bind (f_X1_keep p1 p2 p3 μ) (fun q1 => some (si q1 20 2 (0 : Int32)))
set_option maxHeartbeats 4000000 in
set_option maxRecDepth 100000 in
theorem c_X7_keepBefore {l : Launch} {D : va_G} {cy : Nat → ClassId} {ad : Nat → Nat} {base : Nat} {p1 : Int32} {p2 : Int32} {p3 : Int32} {μ : gM} {RES : gM} (h : f_X7_keepBefore p1 p2 p3 μ = some RES) : Met l yX7_keepBefore [.code yX7_keepBefore cX7_keepBefore 4 none] ({ frames := 2, cells := 0, slots := 0, locals := 89 } : Room) (va_Pc [.ref (ad 0), .int p1, .int p2, .int p3] (gB l gFull D cy ad base μ)) (gQ none gFull D cy ad base RES) 0 0 (gA base) := by
  refine Met.ofW (cc := cX7_keepBefore) (maxL := 4) (ret := none) (by decide) rfl ?_
  intro p e s m args below meth c s₁ B hml0 hv
  obtain ⟨rfl, E, hM⟩ := hv
  have F : gF p s m meth c cX7_keepBefore RX7 4 none := gF_of B hml0
  obtain ⟨hx, hb, hml, hown, hlocks, hr⟩ := id F
  have hS : va_S (gA base) s.heap s.heap [] := va_S.rf
  have hl := lv_entry ([.ref (ad 0), .int p1, .int p2, .int p3]) (n := 4) (Nat.le_of_ble_eq_true rfl)
  rw [lg_entry_eq]
  generalize (lg_sl ([.ref (ad 0), .int p1, .int p2, .int p3]) ++ List.replicate (4 - (lg_sl ([.ref (ad 0), .int p1, .int p2, .int p3])).length) Slot.unset).toArray = ls at hl ⊢
  have hl : lv_has ls 4 [(0, .ref (ad 0)), (1, .int p1), (2, .int p2), (3, .int p3)] := hl
  unfold f_X7_keepBefore at h
  refine lv_aload_n hx hb dX7_keepBefore_0 rfl (lv_at hl 0 rfl) ?_
  refine gg_0_4 hx hb hown E hM hk_0 kw_462 dX7_keepBefore_1 ?_
  refine lv_iload_n hx hb dX7_keepBefore_4 rfl (lv_at hl 1 rfl) ?_
  refine lv_iload_n hx hb dX7_keepBefore_5 rfl (lv_at hl 2 rfl) ?_
  refine lv_iload_n hx hb dX7_keepBefore_6 rfl (lv_at hl 3 rfl) ?_
  refine lv_aload_n hx hb dX7_keepBefore_7 rfl (lv_at hl 0 rfl) ?_
  refine gg_0_3 hx hb hown E hM hk_0 kw_461 dX7_keepBefore_8 ?_
  obtain ⟨q1, hq1, h⟩ := gbind_e h
  refine g_callV (As := [.int p1, .int p2, .int p3, .ref (ad 20)]) (rest := []) hx hb (hml.trans hl.1.symm) hown E hM hS hy_X1_keep kw_826 (c_X1_keep hq1) hk_28 dd_28 rfl rfl rfl (Nat.le_of_ble_eq_true rfl) ⟨Nat.le_of_ble_eq_true rfl, Nat.le_of_ble_eq_true rfl⟩ ⟨Nat.le_of_ble_eq_true rfl, Nat.le_of_ble_eq_true rfl⟩ dX7_keepBefore_11 (fun H locs hM hS => ?_)
  refine lv_aload_n hx hb dX7_keepBefore_14 rfl (lv_at hl 0 rfl) ?_
  refine gg_0_3 hx hb hown E hM hk_0 kw_461 dX7_keepBefore_15 ?_
  refine lv_iconst (v := (0 : Int32)) hx hb dX7_keepBefore_18 (by decide) ?_
  refine gp_20_2 hx hb hown E hM hS hk_20 (Or.inl rfl) kw_286 dX7_keepBefore_19 (fun H locs hM hS => ?_)
  obtain rfl := Option.some.inj h
  exact g_vret hx hb hr hlocks hM hS dX7_keepBefore_22
def f_X7_hold (p1 : Int32) (p2 : Int32) (μ : gM) : Option (Int32 × gM) :=
  Option.bind (f_X7_isIndex p1 (gi μ 34 1) μ) (fun q1 => if ((b2i q1) = 0) then some ((-1 : Int32), μ) else if (p2 < 0) then some ((-2 : Int32), μ) else if (p2 ≤ (9999999 : Int32)) then gchk (gIn p1 16) (Option.bind (f_X7_keepBefore (0 : Int32) p1 (gi μ 39 p1.toNatClampNeg) μ) (fun q6 => gchk (gIn p1 16) (Option.bind (f_X3_countHeld  (si q6 39 p1.toNatClampNeg p2)) (fun q8 => some (q8, (si q6 39 p1.toNatClampNeg p2)))))) else some ((-2 : Int32), μ))
set_option maxHeartbeats 4000000 in
set_option maxRecDepth 100000 in
theorem c_X7_hold {l : Launch} {D : va_G} {cy : Nat → ClassId} {ad : Nat → Nat} {base : Nat} {p1 : Int32} {p2 : Int32} {μ : gM} {RES : Int32 × gM} (h : f_X7_hold p1 p2 μ = some RES) : Met l yX7_hold [.code yX7_hold cX7_hold 3 (some .int)] ({ frames := 3, cells := 0, slots := 0, locals := 112 } : Room) (va_Pc [.ref (ad 0), .int p1, .int p2] (gB l gFull D cy ad base μ)) (gQ (some (.int RES.1)) gFull D cy ad base RES.2) 0 0 (gA base) := by
  refine Met.ofW (cc := cX7_hold) (maxL := 3) (ret := (some .int)) (by decide) rfl ?_
  intro p e s m args below meth c s₁ B hml0 hv
  obtain ⟨rfl, E, hM⟩ := hv
  have F : gF p s m meth c cX7_hold RX7 3 (some .int) := gF_of B hml0
  obtain ⟨hx, hb, hml, hown, hlocks, hr⟩ := id F
  have hS : va_S (gA base) s.heap s.heap [] := va_S.rf
  have hl := lv_entry ([.ref (ad 0), .int p1, .int p2]) (n := 3) (Nat.le_of_ble_eq_true rfl)
  rw [lg_entry_eq]
  generalize (lg_sl ([.ref (ad 0), .int p1, .int p2]) ++ List.replicate (3 - (lg_sl ([.ref (ad 0), .int p1, .int p2])).length) Slot.unset).toArray = ls at hl ⊢
  have hl : lv_has ls 3 [(0, .ref (ad 0)), (1, .int p1), (2, .int p2)] := hl
  unfold f_X7_hold at h
  refine lv_iload_n hx hb dX7_hold_0 rfl (lv_at hl 1 rfl) ?_
  refine lv_aload_n hx hb dX7_hold_1 rfl (lv_at hl 0 rfl) ?_
  refine gg_0_5 hx hb hown E hM hk_0 kw_463 dX7_hold_2 ?_
  refine gg_34_1 hx hb hown E hM hk_34 kw_360 dX7_hold_5 ?_
  obtain ⟨q1, hq1, h⟩ := gbind_e h
  refine g_callS (As := [.int p1, .int (gi μ 34 1)]) (rest := []) hx hb (hml.trans hl.1.symm) hown E hM hS hy_X7_isIndex kw_645 (c_X7_isIndex hq1) rfl rfl (Nat.le_of_ble_eq_true rfl) ⟨Nat.le_of_ble_eq_true rfl, Nat.le_of_ble_eq_true rfl⟩ ⟨Nat.le_of_ble_eq_true rfl, Nat.le_of_ble_eq_true rfl⟩ dX7_hold_8 (fun H locs hM hS => ?_)
  refine lv_if_ne (tgt := 16) hx hb dX7_hold_11 (by decide) (fun c2 => ?_) (fun c2 => ?_)
  · replace h := gif_f c2 h
    refine lv_iload_n hx hb dX7_hold_16 rfl (lv_at hl 2 rfl) ?_
    refine lv_if_lt (tgt := 27) hx hb dX7_hold_17 (by decide) (fun c3 => ?_) (fun c3 => ?_)
    · replace h := gif_t c3 h
      refine lv_bipush (v := (-2 : Int32)) hx hb dX7_hold_27 (by decide) ?_
      obtain rfl := Option.some.inj h
      exact g_iret hx hb hr hlocks hM hS dX7_hold_29
    · replace h := gif_f c3 h
      refine lv_iload_n hx hb dX7_hold_20 rfl (lv_at hl 2 rfl) ?_
      refine lv_ldcw hx hb hown (v := (9999999 : Int32)) (E.kw kw_821) dX7_hold_21 ?_
      refine lv_icmp_le (tgt := 30) hx hb dX7_hold_24 (by decide) (fun c4 => ?_) (fun c4 => ?_)
      · replace h := gif_t c4 h
        refine lv_aload_n hx hb dX7_hold_30 rfl (lv_at hl 0 rfl) ?_
        refine lv_iconst (v := (0 : Int32)) hx hb dX7_hold_31 (by decide) ?_
        refine lv_iload_n hx hb dX7_hold_32 rfl (lv_at hl 1 rfl) ?_
        refine lv_aload_n hx hb dX7_hold_33 rfl (lv_at hl 0 rfl) ?_
        refine gg_0_5 hx hb hown E hM hk_0 kw_463 dX7_hold_34 ?_
        refine gg_34_9 hx hb hown E hM hk_34 kw_394 dX7_hold_37 ?_
        refine lv_iload_n hx hb dX7_hold_40 rfl (lv_at hl 1 rfl) ?_
        obtain ⟨c5, h⟩ := gchk_e h
        refine g_iald hx hb E hM hk_39 dd_39 c5 dX7_hold_41 ?_
        obtain ⟨q6, hq6, h⟩ := gbind_e h
        refine g_callV (As := [.int (0 : Int32), .int p1, .int (gi μ 39 p1.toNatClampNeg)]) (rest := []) hx hb (hml.trans hl.1.symm) hown E hM hS hy_X7_keepBefore kw_822 (c_X7_keepBefore hq6) hk_0 dd_0 rfl rfl rfl (Nat.le_of_ble_eq_true rfl) ⟨Nat.le_of_ble_eq_true rfl, Nat.le_of_ble_eq_true rfl⟩ ⟨Nat.le_of_ble_eq_true rfl, Nat.le_of_ble_eq_true rfl⟩ dX7_hold_42 (fun H locs hM hS => ?_)
        refine lv_aload_n hx hb dX7_hold_45 rfl (lv_at hl 0 rfl) ?_
        refine gg_0_5 hx hb hown E hM hk_0 kw_463 dX7_hold_46 ?_
        refine gg_34_9 hx hb hown E hM hk_34 kw_394 dX7_hold_49 ?_
        refine lv_iload_n hx hb dX7_hold_52 rfl (lv_at hl 1 rfl) ?_
        refine lv_iload_n hx hb dX7_hold_53 rfl (lv_at hl 2 rfl) ?_
        obtain ⟨c7, h⟩ := gchk_e h
        refine g_iast hx hb E hM hS hk_39 dd_39 c7 dX7_hold_54 (fun H locs hM hS => ?_)
        refine lv_aload_n hx hb dX7_hold_55 rfl (lv_at hl 0 rfl) ?_
        refine gg_0_5 hx hb hown E hM hk_0 kw_463 dX7_hold_56 ?_
        obtain ⟨q8, hq8, h⟩ := gbind_e h
        refine g_callV (As := []) (rest := []) hx hb (hml.trans hl.1.symm) hown E hM hS hy_X3_countHeld kw_833 (c_X3_countHeld hq8) hk_34 dd_34 rfl rfl rfl (Nat.le_of_ble_eq_true rfl) ⟨Nat.le_of_ble_eq_true rfl, Nat.le_of_ble_eq_true rfl⟩ ⟨Nat.le_of_ble_eq_true rfl, Nat.le_of_ble_eq_true rfl⟩ dX7_hold_59 (fun H locs hM hS => ?_)
        obtain rfl := Option.some.inj h
        exact g_iret hx hb hr hlocks hM hS dX7_hold_62
      · replace h := gif_f c4 h
        refine lv_bipush (v := (-2 : Int32)) hx hb dX7_hold_27 (by decide) ?_
        obtain rfl := Option.some.inj h
        exact g_iret hx hb hr hlocks hM hS dX7_hold_29
  · replace h := gif_t c2 h
    refine lv_iconst (v := (-1 : Int32)) hx hb dX7_hold_14 (by decide) ?_
    obtain rfl := Option.some.inj h
    exact g_iret hx hb hr hlocks hM hS dX7_hold_15
def f_X7_release (p1 : Int32) (μ : gM) : Option (Int32 × gM) :=
  Option.bind (f_X7_isIndex p1 (gi μ 34 1) μ) (fun q1 => if ((b2i q1) = 0) then some ((-1 : Int32), μ) else gchk (gIn p1 16) (if ((gi μ 39 p1.toNatClampNeg) = (-1 : Int32)) then some ((-1 : Int32), μ) else gchk (gIn p1 16) (Option.bind (f_X7_keepBefore (0 : Int32) p1 (gi μ 39 p1.toNatClampNeg) μ) (fun q6 => gchk (gIn p1 16) (Option.bind (f_X3_countHeld  (si q6 39 p1.toNatClampNeg (-1 : Int32))) (fun q8 => some (q8, (si q6 39 p1.toNatClampNeg (-1 : Int32)))))))))
set_option maxHeartbeats 4000000 in
set_option maxRecDepth 100000 in
theorem c_X7_release {l : Launch} {D : va_G} {cy : Nat → ClassId} {ad : Nat → Nat} {base : Nat} {p1 : Int32} {μ : gM} {RES : Int32 × gM} (h : f_X7_release p1 μ = some RES) : Met l yX7_release [.code yX7_release cX7_release 2 (some .int)] ({ frames := 3, cells := 0, slots := 0, locals := 112 } : Room) (va_Pc [.ref (ad 0), .int p1] (gB l gFull D cy ad base μ)) (gQ (some (.int RES.1)) gFull D cy ad base RES.2) 0 0 (gA base) := by
  refine Met.ofW (cc := cX7_release) (maxL := 2) (ret := (some .int)) (by decide) rfl ?_
  intro p e s m args below meth c s₁ B hml0 hv
  obtain ⟨rfl, E, hM⟩ := hv
  have F : gF p s m meth c cX7_release RX7 2 (some .int) := gF_of B hml0
  obtain ⟨hx, hb, hml, hown, hlocks, hr⟩ := id F
  have hS : va_S (gA base) s.heap s.heap [] := va_S.rf
  have hl := lv_entry ([.ref (ad 0), .int p1]) (n := 2) (Nat.le_of_ble_eq_true rfl)
  rw [lg_entry_eq]
  generalize (lg_sl ([.ref (ad 0), .int p1]) ++ List.replicate (2 - (lg_sl ([.ref (ad 0), .int p1])).length) Slot.unset).toArray = ls at hl ⊢
  have hl : lv_has ls 2 [(0, .ref (ad 0)), (1, .int p1)] := hl
  unfold f_X7_release at h
  refine lv_iload_n hx hb dX7_release_0 rfl (lv_at hl 1 rfl) ?_
  refine lv_aload_n hx hb dX7_release_1 rfl (lv_at hl 0 rfl) ?_
  refine gg_0_5 hx hb hown E hM hk_0 kw_463 dX7_release_2 ?_
  refine gg_34_1 hx hb hown E hM hk_34 kw_360 dX7_release_5 ?_
  obtain ⟨q1, hq1, h⟩ := gbind_e h
  refine g_callS (As := [.int p1, .int (gi μ 34 1)]) (rest := []) hx hb (hml.trans hl.1.symm) hown E hM hS hy_X7_isIndex kw_645 (c_X7_isIndex hq1) rfl rfl (Nat.le_of_ble_eq_true rfl) ⟨Nat.le_of_ble_eq_true rfl, Nat.le_of_ble_eq_true rfl⟩ ⟨Nat.le_of_ble_eq_true rfl, Nat.le_of_ble_eq_true rfl⟩ dX7_release_8 (fun H locs hM hS => ?_)
  refine lv_if_eq (tgt := 27) hx hb dX7_release_11 (by decide) (fun c2 => ?_) (fun c2 => ?_)
  · replace h := gif_t c2 h
    refine lv_iconst (v := (-1 : Int32)) hx hb dX7_release_27 (by decide) ?_
    obtain rfl := Option.some.inj h
    exact g_iret hx hb hr hlocks hM hS dX7_release_28
  · replace h := gif_f c2 h
    refine lv_aload_n hx hb dX7_release_14 rfl (lv_at hl 0 rfl) ?_
    refine gg_0_5 hx hb hown E hM hk_0 kw_463 dX7_release_15 ?_
    refine gg_34_9 hx hb hown E hM hk_34 kw_394 dX7_release_18 ?_
    refine lv_iload_n hx hb dX7_release_21 rfl (lv_at hl 1 rfl) ?_
    obtain ⟨c3, h⟩ := gchk_e h
    refine g_iald hx hb E hM hk_39 dd_39 c3 dX7_release_22 ?_
    refine lv_iconst (v := (-1 : Int32)) hx hb dX7_release_23 (by decide) ?_
    refine lv_icmp_ne (tgt := 29) hx hb dX7_release_24 (by decide) (fun c4 => ?_) (fun c4 => ?_)
    · replace h := gif_f c4 h
      refine lv_aload_n hx hb dX7_release_29 rfl (lv_at hl 0 rfl) ?_
      refine lv_iconst (v := (0 : Int32)) hx hb dX7_release_30 (by decide) ?_
      refine lv_iload_n hx hb dX7_release_31 rfl (lv_at hl 1 rfl) ?_
      refine lv_aload_n hx hb dX7_release_32 rfl (lv_at hl 0 rfl) ?_
      refine gg_0_5 hx hb hown E hM hk_0 kw_463 dX7_release_33 ?_
      refine gg_34_9 hx hb hown E hM hk_34 kw_394 dX7_release_36 ?_
      refine lv_iload_n hx hb dX7_release_39 rfl (lv_at hl 1 rfl) ?_
      obtain ⟨c5, h⟩ := gchk_e h
      refine g_iald hx hb E hM hk_39 dd_39 c5 dX7_release_40 ?_
      obtain ⟨q6, hq6, h⟩ := gbind_e h
      refine g_callV (As := [.int (0 : Int32), .int p1, .int (gi μ 39 p1.toNatClampNeg)]) (rest := []) hx hb (hml.trans hl.1.symm) hown E hM hS hy_X7_keepBefore kw_822 (c_X7_keepBefore hq6) hk_0 dd_0 rfl rfl rfl (Nat.le_of_ble_eq_true rfl) ⟨Nat.le_of_ble_eq_true rfl, Nat.le_of_ble_eq_true rfl⟩ ⟨Nat.le_of_ble_eq_true rfl, Nat.le_of_ble_eq_true rfl⟩ dX7_release_41 (fun H locs hM hS => ?_)
      refine lv_aload_n hx hb dX7_release_44 rfl (lv_at hl 0 rfl) ?_
      refine gg_0_5 hx hb hown E hM hk_0 kw_463 dX7_release_45 ?_
      refine gg_34_9 hx hb hown E hM hk_34 kw_394 dX7_release_48 ?_
      refine lv_iload_n hx hb dX7_release_51 rfl (lv_at hl 1 rfl) ?_
      refine lv_iconst (v := (-1 : Int32)) hx hb dX7_release_52 (by decide) ?_
      obtain ⟨c7, h⟩ := gchk_e h
      refine g_iast hx hb E hM hS hk_39 dd_39 c7 dX7_release_53 (fun H locs hM hS => ?_)
      refine lv_aload_n hx hb dX7_release_54 rfl (lv_at hl 0 rfl) ?_
      refine gg_0_5 hx hb hown E hM hk_0 kw_463 dX7_release_55 ?_
      obtain ⟨q8, hq8, h⟩ := gbind_e h
      refine g_callV (As := []) (rest := []) hx hb (hml.trans hl.1.symm) hown E hM hS hy_X3_countHeld kw_833 (c_X3_countHeld hq8) hk_34 dd_34 rfl rfl rfl (Nat.le_of_ble_eq_true rfl) ⟨Nat.le_of_ble_eq_true rfl, Nat.le_of_ble_eq_true rfl⟩ ⟨Nat.le_of_ble_eq_true rfl, Nat.le_of_ble_eq_true rfl⟩ dX7_release_58 (fun H locs hM hS => ?_)
      obtain rfl := Option.some.inj h
      exact g_iret hx hb hr hlocks hM hS dX7_release_61
    · replace h := gif_t c4 h
      refine lv_iconst (v := (-1 : Int32)) hx hb dX7_release_27 (by decide) ?_
      obtain rfl := Option.some.inj h
      exact g_iret hx hb hr hlocks hM hS dX7_release_28
def f_X7_fits (p1 : Int32) (p2 : Int32) (μ : gM) : Option (Bool) :=
  gchk (gIn p1 4) (if (p2 < (sc 0 p1.toNatClampNeg)) then some false else gchk (gIn p1 4) (if ((sc 1 p1.toNatClampNeg) < p2) then some false else some true))
set_option maxHeartbeats 4000000 in
set_option maxRecDepth 100000 in
theorem c_X7_fits {l : Launch} {D : va_G} {cy : Nat → ClassId} {ad : Nat → Nat} {base : Nat} {p1 : Int32} {p2 : Int32} {μ : gM} {RES : Bool} (h : f_X7_fits p1 p2 μ = some RES) : Met l yX7_fits [.code yX7_fits cX7_fits 2 (some .boolean)] ({ frames := 0, cells := 0, slots := 0, locals := 0 } : Room) (va_Pc [.int p1, .int p2] (gB l gFull D cy ad base μ)) (gQ (some (.int (b2i RES))) gFull D cy ad base μ) 0 0 (gA base) := by
  refine Met.ofW (cc := cX7_fits) (maxL := 2) (ret := (some .boolean)) (by decide) rfl ?_
  intro p e s m args below meth c s₁ B hml0 hv
  obtain ⟨rfl, E, hM⟩ := hv
  have F : gF p s m meth c cX7_fits RX7 2 (some .boolean) := gF_of B hml0
  obtain ⟨hx, hb, hml, hown, hlocks, hr⟩ := id F
  have hS : va_S (gA base) s.heap s.heap [] := va_S.rf
  have hl := lv_entry ([.int p1, .int p2]) (n := 2) (Nat.le_of_ble_eq_true rfl)
  rw [lg_entry_eq]
  generalize (lg_sl ([.int p1, .int p2]) ++ List.replicate (2 - (lg_sl ([.int p1, .int p2])).length) Slot.unset).toArray = ls at hl ⊢
  have hl : lv_has ls 2 [(0, .int p1), (1, .int p2)] := hl
  unfold f_X7_fits at h
  refine lv_iload_n hx hb dX7_fits_0 rfl (lv_at hl 1 rfl) ?_
  refine g_gets hx hb hown E hS 0 (by decide) (gSt_0) kw_853 dX7_fits_1 ?_
  refine lv_iload_n hx hb dX7_fits_4 rfl (lv_at hl 0 rfl) ?_
  obtain ⟨c1, h⟩ := gchk_e h
  refine g_sti hx hb E hS 0 (n := 4) (by decide) rfl rfl c1 dX7_fits_5 ?_
  refine lv_icmp_lt (tgt := 22) hx hb dX7_fits_6 (by decide) (fun c2 => ?_) (fun c2 => ?_)
  · replace h := gif_t c2 h
    refine lv_iconst (v := (0 : Int32)) hx hb dX7_fits_22 (by decide) ?_
    obtain rfl := Option.some.inj h
    exact g_zret (v := b2i false) hx hb hr hlocks (b2i_nar false) hM hS dX7_fits_23
  · replace h := gif_f c2 h
    refine lv_iload_n hx hb dX7_fits_9 rfl (lv_at hl 1 rfl) ?_
    refine g_gets hx hb hown E hS 1 (by decide) (gSt_1) kw_854 dX7_fits_10 ?_
    refine lv_iload_n hx hb dX7_fits_13 rfl (lv_at hl 0 rfl) ?_
    obtain ⟨c3, h⟩ := gchk_e h
    refine g_sti hx hb E hS 1 (n := 4) (by decide) rfl rfl c3 dX7_fits_14 ?_
    refine lv_icmp_gt (tgt := 22) hx hb dX7_fits_15 (by decide) (fun c4 => ?_) (fun c4 => ?_)
    · replace h := gif_t c4 h
      refine lv_iconst (v := (0 : Int32)) hx hb dX7_fits_22 (by decide) ?_
      obtain rfl := Option.some.inj h
      exact g_zret (v := b2i false) hx hb hr hlocks (b2i_nar false) hM hS dX7_fits_23
    · replace h := gif_f c4 h
      refine lv_iconst (v := (1 : Int32)) hx hb dX7_fits_18 (by decide) ?_
      refine lv_goto (tgt := 23) hx hb dX7_fits_19 (by decide) ?_
      obtain rfl := Option.some.inj h
      exact g_zret (v := b2i true) hx hb hr hlocks (b2i_nar true) hM hS dX7_fits_23
def f_X7_setReading (p1 : Int32) (p2 : Int32) (p3 : Int32) (p4 : Int32) (μ : gM) : Option (Int32 × gM) :=
  Option.bind (f_X7_isIndex p1 (gi μ 34 2) μ) (fun q1 => if ((b2i q1) = 0) then some ((-1 : Int32), μ) else Option.bind (f_X3_hasSetup p1 p2 μ) (fun q3 => if ((b2i q3) = 0) then some ((-1 : Int32), μ) else Option.bind (f_X7_isIndex p3 (4 : Int32) μ) (fun q5 => if ((b2i q5) = 0) then some ((-2 : Int32), μ) else Option.bind (f_X7_fits p3 p4 μ) (fun q7 => if ((b2i q7) = 0) then some ((-2 : Int32), μ) else Option.bind (f_X3_place p1 p2 μ) (fun q9 => gchk (gIn (q9 + p3) 640) (Option.bind (f_X7_keepBefore (1 : Int32) (q9 + p3) (gi μ 44 (q9 + p3).toNatClampNeg) μ) (fun q11 => gchk (gIn (q9 + p3) 640) (some ((gi μ 44 (q9 + p3).toNatClampNeg), (si q11 44 (q9 + p3).toNatClampNeg p4))))))))))
set_option maxHeartbeats 4000000 in
set_option maxRecDepth 100000 in
theorem c_X7_setReading {l : Launch} {D : va_G} {cy : Nat → ClassId} {ad : Nat → Nat} {base : Nat} {p1 : Int32} {p2 : Int32} {p3 : Int32} {p4 : Int32} {μ : gM} {RES : Int32 × gM} (h : f_X7_setReading p1 p2 p3 p4 μ = some RES) : Met l yX7_setReading [.code yX7_setReading cX7_setReading 7 (some .int)] ({ frames := 3, cells := 0, slots := 0, locals := 112 } : Room) (va_Pc [.ref (ad 0), .int p1, .int p2, .int p3, .int p4] (gB l gFull D cy ad base μ)) (gQ (some (.int RES.1)) gFull D cy ad base RES.2) 0 0 (gA base) := by
  refine Met.ofW (cc := cX7_setReading) (maxL := 7) (ret := (some .int)) (by decide) rfl ?_
  intro p e s m args below meth c s₁ B hml0 hv
  obtain ⟨rfl, E, hM⟩ := hv
  have F : gF p s m meth c cX7_setReading RX7 7 (some .int) := gF_of B hml0
  obtain ⟨hx, hb, hml, hown, hlocks, hr⟩ := id F
  have hS : va_S (gA base) s.heap s.heap [] := va_S.rf
  have hl := lv_entry ([.ref (ad 0), .int p1, .int p2, .int p3, .int p4]) (n := 7) (Nat.le_of_ble_eq_true rfl)
  rw [lg_entry_eq]
  generalize (lg_sl ([.ref (ad 0), .int p1, .int p2, .int p3, .int p4]) ++ List.replicate (7 - (lg_sl ([.ref (ad 0), .int p1, .int p2, .int p3, .int p4])).length) Slot.unset).toArray = ls at hl ⊢
  have hl : lv_has ls 7 [(0, .ref (ad 0)), (1, .int p1), (2, .int p2), (3, .int p3), (4, .int p4)] := hl
  unfold f_X7_setReading at h
  refine lv_iload_n hx hb dX7_setReading_0 rfl (lv_at hl 1 rfl) ?_
  refine lv_aload_n hx hb dX7_setReading_1 rfl (lv_at hl 0 rfl) ?_
  refine gg_0_5 hx hb hown E hM hk_0 kw_463 dX7_setReading_2 ?_
  refine gg_34_2 hx hb hown E hM hk_34 kw_367 dX7_setReading_5 ?_
  obtain ⟨q1, hq1, h⟩ := gbind_e h
  refine g_callS (As := [.int p1, .int (gi μ 34 2)]) (rest := []) hx hb (hml.trans hl.1.symm) hown E hM hS hy_X7_isIndex kw_645 (c_X7_isIndex hq1) rfl rfl (Nat.le_of_ble_eq_true rfl) ⟨Nat.le_of_ble_eq_true rfl, Nat.le_of_ble_eq_true rfl⟩ ⟨Nat.le_of_ble_eq_true rfl, Nat.le_of_ble_eq_true rfl⟩ dX7_setReading_8 (fun H locs hM hS => ?_)
  refine lv_if_eq (tgt := 26) hx hb dX7_setReading_11 (by decide) (fun c2 => ?_) (fun c2 => ?_)
  · replace h := gif_t c2 h
    refine lv_iconst (v := (-1 : Int32)) hx hb dX7_setReading_26 (by decide) ?_
    obtain rfl := Option.some.inj h
    exact g_iret hx hb hr hlocks hM hS dX7_setReading_27
  · replace h := gif_f c2 h
    refine lv_aload_n hx hb dX7_setReading_14 rfl (lv_at hl 0 rfl) ?_
    refine gg_0_5 hx hb hown E hM hk_0 kw_463 dX7_setReading_15 ?_
    refine lv_iload_n hx hb dX7_setReading_18 rfl (lv_at hl 1 rfl) ?_
    refine lv_iload_n hx hb dX7_setReading_19 rfl (lv_at hl 2 rfl) ?_
    obtain ⟨q3, hq3, h⟩ := gbind_e h
    refine g_callV (As := [.int p1, .int p2]) (rest := []) hx hb (hml.trans hl.1.symm) hown E hM hS hy_X3_hasSetup kw_845 (c_X3_hasSetup hq3) hk_34 dd_34 rfl rfl rfl (Nat.le_of_ble_eq_true rfl) ⟨Nat.le_of_ble_eq_true rfl, Nat.le_of_ble_eq_true rfl⟩ ⟨Nat.le_of_ble_eq_true rfl, Nat.le_of_ble_eq_true rfl⟩ dX7_setReading_20 (fun H locs hM hS => ?_)
    refine lv_if_ne (tgt := 28) hx hb dX7_setReading_23 (by decide) (fun c4 => ?_) (fun c4 => ?_)
    · replace h := gif_f c4 h
      refine lv_iload_n hx hb dX7_setReading_28 rfl (lv_at hl 3 rfl) ?_
      refine lv_iconst (v := (4 : Int32)) hx hb dX7_setReading_29 (by decide) ?_
      obtain ⟨q5, hq5, h⟩ := gbind_e h
      refine g_callS (As := [.int p3, .int (4 : Int32)]) (rest := []) hx hb (hml.trans hl.1.symm) hown E hM hS hy_X7_isIndex kw_645 (c_X7_isIndex hq5) rfl rfl (Nat.le_of_ble_eq_true rfl) ⟨Nat.le_of_ble_eq_true rfl, Nat.le_of_ble_eq_true rfl⟩ ⟨Nat.le_of_ble_eq_true rfl, Nat.le_of_ble_eq_true rfl⟩ dX7_setReading_30 (fun H locs hM hS => ?_)
      refine lv_if_eq (tgt := 45) hx hb dX7_setReading_33 (by decide) (fun c6 => ?_) (fun c6 => ?_)
      · replace h := gif_t c6 h
        refine lv_bipush (v := (-2 : Int32)) hx hb dX7_setReading_45 (by decide) ?_
        obtain rfl := Option.some.inj h
        exact g_iret hx hb hr hlocks hM hS dX7_setReading_47
      · replace h := gif_f c6 h
        refine lv_iload_n hx hb dX7_setReading_36 rfl (lv_at hl 3 rfl) ?_
        refine lv_iload hx hb dX7_setReading_37 (lv_at hl 4 rfl) ?_
        obtain ⟨q7, hq7, h⟩ := gbind_e h
        refine g_callS (As := [.int p3, .int p4]) (rest := []) hx hb (hml.trans hl.1.symm) hown E hM hS hy_X7_fits kw_850 (c_X7_fits hq7) rfl rfl (Nat.le_of_ble_eq_true rfl) ⟨Nat.le_of_ble_eq_true rfl, Nat.le_of_ble_eq_true rfl⟩ ⟨Nat.le_of_ble_eq_true rfl, Nat.le_of_ble_eq_true rfl⟩ dX7_setReading_39 (fun H locs hM hS => ?_)
        refine lv_if_ne (tgt := 48) hx hb dX7_setReading_42 (by decide) (fun c8 => ?_) (fun c8 => ?_)
        · replace h := gif_f c8 h
          refine lv_aload_n hx hb dX7_setReading_48 rfl (lv_at hl 0 rfl) ?_
          refine gg_0_5 hx hb hown E hM hk_0 kw_463 dX7_setReading_49 ?_
          refine lv_iload_n hx hb dX7_setReading_52 rfl (lv_at hl 1 rfl) ?_
          refine lv_iload_n hx hb dX7_setReading_53 rfl (lv_at hl 2 rfl) ?_
          obtain ⟨q9, hq9, h⟩ := gbind_e h
          refine g_callV (As := [.int p1, .int p2]) (rest := []) hx hb (hml.trans hl.1.symm) hown E hM hS hy_X3_place kw_855 (c_X3_place hq9) hk_34 dd_34 rfl rfl rfl (Nat.le_of_ble_eq_true rfl) ⟨Nat.le_of_ble_eq_true rfl, Nat.le_of_ble_eq_true rfl⟩ ⟨Nat.le_of_ble_eq_true rfl, Nat.le_of_ble_eq_true rfl⟩ dX7_setReading_54 (fun H locs hM hS => ?_)
          refine lv_iload_n hx hb dX7_setReading_57 rfl (lv_at hl 3 rfl) ?_
          refine lv_iadd hx hb dX7_setReading_58 ?_
          refine lv_istore (lv' := [(5, .int (q9 + p3)), (0, .ref (ad 0)), (1, .int p1), (2, .int p2), (3, .int p3), (4, .int p4)]) hx hb dX7_setReading_59 hl (by decide) rfl (fun ls hl => ?_)
          refine lv_aload_n hx hb dX7_setReading_61 rfl (lv_at hl 1 rfl) ?_
          refine gg_0_5 hx hb hown E hM hk_0 kw_463 dX7_setReading_62 ?_
          refine gg_34_14 hx hb hown E hM hk_34 kw_417 dX7_setReading_65 ?_
          refine lv_iload hx hb dX7_setReading_68 (lv_at hl 0 rfl) ?_
          obtain ⟨c10, h⟩ := gchk_e h
          refine g_iald hx hb E hM hk_44 dd_44 c10 dX7_setReading_70 ?_
          refine lv_istore (lv' := [(6, .int (gi μ 44 (q9 + p3).toNatClampNeg)), (5, .int (q9 + p3)), (0, .ref (ad 0)), (1, .int p1), (2, .int p2), (3, .int p3), (4, .int p4)]) hx hb dX7_setReading_71 hl (by decide) rfl (fun ls hl => ?_)
          refine lv_aload_n hx hb dX7_setReading_73 rfl (lv_at hl 2 rfl) ?_
          refine lv_iconst (v := (1 : Int32)) hx hb dX7_setReading_74 (by decide) ?_
          refine lv_iload hx hb dX7_setReading_75 (lv_at hl 1 rfl) ?_
          refine lv_iload hx hb dX7_setReading_77 (lv_at hl 0 rfl) ?_
          obtain ⟨q11, hq11, h⟩ := gbind_e h
          refine g_callV (As := [.int (1 : Int32), .int (q9 + p3), .int (gi μ 44 (q9 + p3).toNatClampNeg)]) (rest := []) hx hb (hml.trans hl.1.symm) hown E hM hS hy_X7_keepBefore kw_822 (c_X7_keepBefore hq11) hk_0 dd_0 rfl rfl rfl (Nat.le_of_ble_eq_true rfl) ⟨Nat.le_of_ble_eq_true rfl, Nat.le_of_ble_eq_true rfl⟩ ⟨Nat.le_of_ble_eq_true rfl, Nat.le_of_ble_eq_true rfl⟩ dX7_setReading_79 (fun H locs hM hS => ?_)
          refine lv_aload_n hx hb dX7_setReading_82 rfl (lv_at hl 2 rfl) ?_
          refine gg_0_5 hx hb hown E hM hk_0 kw_463 dX7_setReading_83 ?_
          refine gg_34_14 hx hb hown E hM hk_34 kw_417 dX7_setReading_86 ?_
          refine lv_iload hx hb dX7_setReading_89 (lv_at hl 1 rfl) ?_
          refine lv_iload hx hb dX7_setReading_91 (lv_at hl 6 rfl) ?_
          obtain ⟨c12, h⟩ := gchk_e h
          refine g_iast hx hb E hM hS hk_44 dd_44 c12 dX7_setReading_93 (fun H locs hM hS => ?_)
          refine lv_iload hx hb dX7_setReading_94 (lv_at hl 0 rfl) ?_
          obtain rfl := Option.some.inj h
          exact g_iret hx hb hr hlocks hM hS dX7_setReading_96
        · replace h := gif_t c8 h
          refine lv_bipush (v := (-2 : Int32)) hx hb dX7_setReading_45 (by decide) ?_
          obtain rfl := Option.some.inj h
          exact g_iret hx hb hr hlocks hM hS dX7_setReading_47
    · replace h := gif_t c4 h
      refine lv_iconst (v := (-1 : Int32)) hx hb dX7_setReading_26 (by decide) ?_
      obtain rfl := Option.some.inj h
      exact g_iret hx hb hr hlocks hM hS dX7_setReading_27
def f_X7_addSetup (p1 : Int32) (p2 : Int32) (p3 : Int32) (p4 : Int32) (p5 : Int32) (μ : gM) : Option (Int32 × gM) :=
  Option.bind (f_X7_isIndex p1 (gi μ 34 2) μ) (fun q1 => if ((b2i q1) = 0) then some ((-1 : Int32), μ) else Option.bind (f_X7_fits (0 : Int32) p2 μ) (fun q3 => if ((b2i q3) = 0) then some ((-2 : Int32), μ) else Option.bind (f_X7_fits (1 : Int32) p3 μ) (fun q5 => if ((b2i q5) = 0) then some ((-2 : Int32), μ) else Option.bind (f_X7_fits (2 : Int32) p4 μ) (fun q7 => if ((b2i q7) = 0) then some ((-2 : Int32), μ) else Option.bind (f_X7_fits (3 : Int32) p5 μ) (fun q9 => if ((b2i q9) = 0) then some ((-2 : Int32), μ) else gchk (gIn p1 20) (if ((gi μ 43 p1.toNatClampNeg) < (8 : Int32)) then Option.bind (f_X7_keepBefore (2 : Int32) p1 (gi μ 43 p1.toNatClampNeg) μ) (fun q13 => Option.bind (f_X3_place p1 (gi μ 43 p1.toNatClampNeg) q13) (fun q14 => gchk (gIn (q14 + (0 : Int32)) 640) (gchk (gIn (q14 + (1 : Int32)) 640) (gchk (gIn (q14 + (2 : Int32)) 640) (gchk (gIn (q14 + (3 : Int32)) 640) (gchk (gIn p1 20) (some (((gi μ 43 p1.toNatClampNeg) + (1 : Int32)), (si (si (si (si (si q13 44 (q14 + (0 : Int32)).toNatClampNeg p2) 44 (q14 + (1 : Int32)).toNatClampNeg p3) 44 (q14 + (2 : Int32)).toNatClampNeg p4) 44 (q14 + (3 : Int32)).toNatClampNeg p5) 43 p1.toNatClampNeg ((gi μ 43 p1.toNatClampNeg) + (1 : Int32))))))))))) else some ((-3 : Int32), μ)))))))
set_option maxHeartbeats 4000000 in
set_option maxRecDepth 100000 in
theorem c_X7_addSetup {l : Launch} {D : va_G} {cy : Nat → ClassId} {ad : Nat → Nat} {base : Nat} {p1 : Int32} {p2 : Int32} {p3 : Int32} {p4 : Int32} {p5 : Int32} {μ : gM} {RES : Int32 × gM} (h : f_X7_addSetup p1 p2 p3 p4 p5 μ = some RES) : Met l yX7_addSetup [.code yX7_addSetup cX7_addSetup 8 (some .int)] ({ frames := 3, cells := 0, slots := 0, locals := 112 } : Room) (va_Pc [.ref (ad 0), .int p1, .int p2, .int p3, .int p4, .int p5] (gB l gFull D cy ad base μ)) (gQ (some (.int RES.1)) gFull D cy ad base RES.2) 0 0 (gA base) := by
  refine Met.ofW (cc := cX7_addSetup) (maxL := 8) (ret := (some .int)) (by decide) rfl ?_
  intro p e s m args below meth c s₁ B hml0 hv
  obtain ⟨rfl, E, hM⟩ := hv
  have F : gF p s m meth c cX7_addSetup RX7 8 (some .int) := gF_of B hml0
  obtain ⟨hx, hb, hml, hown, hlocks, hr⟩ := id F
  have hS : va_S (gA base) s.heap s.heap [] := va_S.rf
  have hl := lv_entry ([.ref (ad 0), .int p1, .int p2, .int p3, .int p4, .int p5]) (n := 8) (Nat.le_of_ble_eq_true rfl)
  rw [lg_entry_eq]
  generalize (lg_sl ([.ref (ad 0), .int p1, .int p2, .int p3, .int p4, .int p5]) ++ List.replicate (8 - (lg_sl ([.ref (ad 0), .int p1, .int p2, .int p3, .int p4, .int p5])).length) Slot.unset).toArray = ls at hl ⊢
  have hl : lv_has ls 8 [(0, .ref (ad 0)), (1, .int p1), (2, .int p2), (3, .int p3), (4, .int p4), (5, .int p5)] := hl
  unfold f_X7_addSetup at h
  refine lv_iload_n hx hb dX7_addSetup_0 rfl (lv_at hl 1 rfl) ?_
  refine lv_aload_n hx hb dX7_addSetup_1 rfl (lv_at hl 0 rfl) ?_
  refine gg_0_5 hx hb hown E hM hk_0 kw_463 dX7_addSetup_2 ?_
  refine gg_34_2 hx hb hown E hM hk_34 kw_367 dX7_addSetup_5 ?_
  obtain ⟨q1, hq1, h⟩ := gbind_e h
  refine g_callS (As := [.int p1, .int (gi μ 34 2)]) (rest := []) hx hb (hml.trans hl.1.symm) hown E hM hS hy_X7_isIndex kw_645 (c_X7_isIndex hq1) rfl rfl (Nat.le_of_ble_eq_true rfl) ⟨Nat.le_of_ble_eq_true rfl, Nat.le_of_ble_eq_true rfl⟩ ⟨Nat.le_of_ble_eq_true rfl, Nat.le_of_ble_eq_true rfl⟩ dX7_addSetup_8 (fun H locs hM hS => ?_)
  refine lv_if_ne (tgt := 16) hx hb dX7_addSetup_11 (by decide) (fun c2 => ?_) (fun c2 => ?_)
  · replace h := gif_f c2 h
    refine lv_iconst (v := (0 : Int32)) hx hb dX7_addSetup_16 (by decide) ?_
    refine lv_iload_n hx hb dX7_addSetup_17 rfl (lv_at hl 2 rfl) ?_
    obtain ⟨q3, hq3, h⟩ := gbind_e h
    refine g_callS (As := [.int (0 : Int32), .int p2]) (rest := []) hx hb (hml.trans hl.1.symm) hown E hM hS hy_X7_fits kw_850 (c_X7_fits hq3) rfl rfl (Nat.le_of_ble_eq_true rfl) ⟨Nat.le_of_ble_eq_true rfl, Nat.le_of_ble_eq_true rfl⟩ ⟨Nat.le_of_ble_eq_true rfl, Nat.le_of_ble_eq_true rfl⟩ dX7_addSetup_18 (fun H locs hM hS => ?_)
    refine lv_if_eq (tgt := 50) hx hb dX7_addSetup_21 (by decide) (fun c4 => ?_) (fun c4 => ?_)
    · replace h := gif_t c4 h
      refine lv_bipush (v := (-2 : Int32)) hx hb dX7_addSetup_50 (by decide) ?_
      obtain rfl := Option.some.inj h
      exact g_iret hx hb hr hlocks hM hS dX7_addSetup_52
    · replace h := gif_f c4 h
      refine lv_iconst (v := (1 : Int32)) hx hb dX7_addSetup_24 (by decide) ?_
      refine lv_iload_n hx hb dX7_addSetup_25 rfl (lv_at hl 3 rfl) ?_
      obtain ⟨q5, hq5, h⟩ := gbind_e h
      refine g_callS (As := [.int (1 : Int32), .int p3]) (rest := []) hx hb (hml.trans hl.1.symm) hown E hM hS hy_X7_fits kw_850 (c_X7_fits hq5) rfl rfl (Nat.le_of_ble_eq_true rfl) ⟨Nat.le_of_ble_eq_true rfl, Nat.le_of_ble_eq_true rfl⟩ ⟨Nat.le_of_ble_eq_true rfl, Nat.le_of_ble_eq_true rfl⟩ dX7_addSetup_26 (fun H locs hM hS => ?_)
      refine lv_if_eq (tgt := 50) hx hb dX7_addSetup_29 (by decide) (fun c6 => ?_) (fun c6 => ?_)
      · replace h := gif_t c6 h
        refine lv_bipush (v := (-2 : Int32)) hx hb dX7_addSetup_50 (by decide) ?_
        obtain rfl := Option.some.inj h
        exact g_iret hx hb hr hlocks hM hS dX7_addSetup_52
      · replace h := gif_f c6 h
        refine lv_iconst (v := (2 : Int32)) hx hb dX7_addSetup_32 (by decide) ?_
        refine lv_iload hx hb dX7_addSetup_33 (lv_at hl 4 rfl) ?_
        obtain ⟨q7, hq7, h⟩ := gbind_e h
        refine g_callS (As := [.int (2 : Int32), .int p4]) (rest := []) hx hb (hml.trans hl.1.symm) hown E hM hS hy_X7_fits kw_850 (c_X7_fits hq7) rfl rfl (Nat.le_of_ble_eq_true rfl) ⟨Nat.le_of_ble_eq_true rfl, Nat.le_of_ble_eq_true rfl⟩ ⟨Nat.le_of_ble_eq_true rfl, Nat.le_of_ble_eq_true rfl⟩ dX7_addSetup_35 (fun H locs hM hS => ?_)
        refine lv_if_eq (tgt := 50) hx hb dX7_addSetup_38 (by decide) (fun c8 => ?_) (fun c8 => ?_)
        · replace h := gif_t c8 h
          refine lv_bipush (v := (-2 : Int32)) hx hb dX7_addSetup_50 (by decide) ?_
          obtain rfl := Option.some.inj h
          exact g_iret hx hb hr hlocks hM hS dX7_addSetup_52
        · replace h := gif_f c8 h
          refine lv_iconst (v := (3 : Int32)) hx hb dX7_addSetup_41 (by decide) ?_
          refine lv_iload hx hb dX7_addSetup_42 (lv_at hl 5 rfl) ?_
          obtain ⟨q9, hq9, h⟩ := gbind_e h
          refine g_callS (As := [.int (3 : Int32), .int p5]) (rest := []) hx hb (hml.trans hl.1.symm) hown E hM hS hy_X7_fits kw_850 (c_X7_fits hq9) rfl rfl (Nat.le_of_ble_eq_true rfl) ⟨Nat.le_of_ble_eq_true rfl, Nat.le_of_ble_eq_true rfl⟩ ⟨Nat.le_of_ble_eq_true rfl, Nat.le_of_ble_eq_true rfl⟩ dX7_addSetup_44 (fun H locs hM hS => ?_)
          refine lv_if_ne (tgt := 53) hx hb dX7_addSetup_47 (by decide) (fun c10 => ?_) (fun c10 => ?_)
          · replace h := gif_f c10 h
            refine lv_aload_n hx hb dX7_addSetup_53 rfl (lv_at hl 0 rfl) ?_
            refine gg_0_5 hx hb hown E hM hk_0 kw_463 dX7_addSetup_54 ?_
            refine gg_34_13 hx hb hown E hM hk_34 kw_413 dX7_addSetup_57 ?_
            refine lv_iload_n hx hb dX7_addSetup_60 rfl (lv_at hl 1 rfl) ?_
            obtain ⟨c11, h⟩ := gchk_e h
            refine g_iald hx hb E hM hk_43 dd_43 c11 dX7_addSetup_61 ?_
            refine lv_istore (lv' := [(6, .int (gi μ 43 p1.toNatClampNeg)), (0, .ref (ad 0)), (1, .int p1), (2, .int p2), (3, .int p3), (4, .int p4), (5, .int p5)]) hx hb dX7_addSetup_62 hl (by decide) rfl (fun ls hl => ?_)
            refine lv_iload hx hb dX7_addSetup_64 (lv_at hl 0 rfl) ?_
            refine lv_bipush (v := (8 : Int32)) hx hb dX7_addSetup_66 (by decide) ?_
            refine lv_icmp_lt (tgt := 74) hx hb dX7_addSetup_68 (by decide) (fun c12 => ?_) (fun c12 => ?_)
            · replace h := gif_t c12 h
              refine lv_aload_n hx hb dX7_addSetup_74 rfl (lv_at hl 1 rfl) ?_
              refine lv_iconst (v := (2 : Int32)) hx hb dX7_addSetup_75 (by decide) ?_
              refine lv_iload_n hx hb dX7_addSetup_76 rfl (lv_at hl 2 rfl) ?_
              refine lv_iload hx hb dX7_addSetup_77 (lv_at hl 0 rfl) ?_
              obtain ⟨q13, hq13, h⟩ := gbind_e h
              refine g_callV (As := [.int (2 : Int32), .int p1, .int (gi μ 43 p1.toNatClampNeg)]) (rest := []) hx hb (hml.trans hl.1.symm) hown E hM hS hy_X7_keepBefore kw_822 (c_X7_keepBefore hq13) hk_0 dd_0 rfl rfl rfl (Nat.le_of_ble_eq_true rfl) ⟨Nat.le_of_ble_eq_true rfl, Nat.le_of_ble_eq_true rfl⟩ ⟨Nat.le_of_ble_eq_true rfl, Nat.le_of_ble_eq_true rfl⟩ dX7_addSetup_79 (fun H locs hM hS => ?_)
              refine lv_aload_n hx hb dX7_addSetup_82 rfl (lv_at hl 1 rfl) ?_
              refine gg_0_5 hx hb hown E hM hk_0 kw_463 dX7_addSetup_83 ?_
              refine lv_iload_n hx hb dX7_addSetup_86 rfl (lv_at hl 2 rfl) ?_
              refine lv_iload hx hb dX7_addSetup_87 (lv_at hl 0 rfl) ?_
              obtain ⟨q14, hq14, h⟩ := gbind_e h
              refine g_callV (As := [.int p1, .int (gi μ 43 p1.toNatClampNeg)]) (rest := []) hx hb (hml.trans hl.1.symm) hown E hM hS hy_X3_place kw_855 (c_X3_place hq14) hk_34 dd_34 rfl rfl rfl (Nat.le_of_ble_eq_true rfl) ⟨Nat.le_of_ble_eq_true rfl, Nat.le_of_ble_eq_true rfl⟩ ⟨Nat.le_of_ble_eq_true rfl, Nat.le_of_ble_eq_true rfl⟩ dX7_addSetup_89 (fun H locs hM hS => ?_)
              refine lv_istore (lv' := [(7, .int q14), (6, .int (gi μ 43 p1.toNatClampNeg)), (0, .ref (ad 0)), (1, .int p1), (2, .int p2), (3, .int p3), (4, .int p4), (5, .int p5)]) hx hb dX7_addSetup_92 hl (by decide) rfl (fun ls hl => ?_)
              refine lv_aload_n hx hb dX7_addSetup_94 rfl (lv_at hl 2 rfl) ?_
              refine gg_0_5 hx hb hown E hM hk_0 kw_463 dX7_addSetup_95 ?_
              refine gg_34_14 hx hb hown E hM hk_34 kw_417 dX7_addSetup_98 ?_
              refine lv_iload hx hb dX7_addSetup_101 (lv_at hl 0 rfl) ?_
              refine lv_iconst (v := (0 : Int32)) hx hb dX7_addSetup_103 (by decide) ?_
              refine lv_iadd hx hb dX7_addSetup_104 ?_
              refine lv_iload_n hx hb dX7_addSetup_105 rfl (lv_at hl 4 rfl) ?_
              obtain ⟨c15, h⟩ := gchk_e h
              refine g_iast hx hb E hM hS hk_44 dd_44 c15 dX7_addSetup_106 (fun H locs hM hS => ?_)
              refine lv_aload_n hx hb dX7_addSetup_107 rfl (lv_at hl 2 rfl) ?_
              refine gg_0_5 hx hb hown E hM hk_0 kw_463 dX7_addSetup_108 ?_
              refine gg_34_14 hx hb hown E hM hk_34 kw_417 dX7_addSetup_111 ?_
              refine lv_iload hx hb dX7_addSetup_114 (lv_at hl 0 rfl) ?_
              refine lv_iconst (v := (1 : Int32)) hx hb dX7_addSetup_116 (by decide) ?_
              refine lv_iadd hx hb dX7_addSetup_117 ?_
              refine lv_iload_n hx hb dX7_addSetup_118 rfl (lv_at hl 5 rfl) ?_
              obtain ⟨c16, h⟩ := gchk_e h
              refine g_iast hx hb E hM hS hk_44 dd_44 c16 dX7_addSetup_119 (fun H locs hM hS => ?_)
              refine lv_aload_n hx hb dX7_addSetup_120 rfl (lv_at hl 2 rfl) ?_
              refine gg_0_5 hx hb hown E hM hk_0 kw_463 dX7_addSetup_121 ?_
              refine gg_34_14 hx hb hown E hM hk_34 kw_417 dX7_addSetup_124 ?_
              refine lv_iload hx hb dX7_addSetup_127 (lv_at hl 0 rfl) ?_
              refine lv_iconst (v := (2 : Int32)) hx hb dX7_addSetup_129 (by decide) ?_
              refine lv_iadd hx hb dX7_addSetup_130 ?_
              refine lv_iload hx hb dX7_addSetup_131 (lv_at hl 6 rfl) ?_
              obtain ⟨c17, h⟩ := gchk_e h
              refine g_iast hx hb E hM hS hk_44 dd_44 c17 dX7_addSetup_133 (fun H locs hM hS => ?_)
              refine lv_aload_n hx hb dX7_addSetup_134 rfl (lv_at hl 2 rfl) ?_
              refine gg_0_5 hx hb hown E hM hk_0 kw_463 dX7_addSetup_135 ?_
              refine gg_34_14 hx hb hown E hM hk_34 kw_417 dX7_addSetup_138 ?_
              refine lv_iload hx hb dX7_addSetup_141 (lv_at hl 0 rfl) ?_
              refine lv_iconst (v := (3 : Int32)) hx hb dX7_addSetup_143 (by decide) ?_
              refine lv_iadd hx hb dX7_addSetup_144 ?_
              refine lv_iload hx hb dX7_addSetup_145 (lv_at hl 7 rfl) ?_
              obtain ⟨c18, h⟩ := gchk_e h
              refine g_iast hx hb E hM hS hk_44 dd_44 c18 dX7_addSetup_147 (fun H locs hM hS => ?_)
              refine lv_aload_n hx hb dX7_addSetup_148 rfl (lv_at hl 2 rfl) ?_
              refine gg_0_5 hx hb hown E hM hk_0 kw_463 dX7_addSetup_149 ?_
              refine gg_34_13 hx hb hown E hM hk_34 kw_413 dX7_addSetup_152 ?_
              refine lv_iload_n hx hb dX7_addSetup_155 rfl (lv_at hl 3 rfl) ?_
              refine lv_iload hx hb dX7_addSetup_156 (lv_at hl 1 rfl) ?_
              refine lv_iconst (v := (1 : Int32)) hx hb dX7_addSetup_158 (by decide) ?_
              refine lv_iadd hx hb dX7_addSetup_159 ?_
              obtain ⟨c19, h⟩ := gchk_e h
              refine g_iast hx hb E hM hS hk_43 dd_43 c19 dX7_addSetup_160 (fun H locs hM hS => ?_)
              refine lv_iload hx hb dX7_addSetup_161 (lv_at hl 1 rfl) ?_
              refine lv_iconst (v := (1 : Int32)) hx hb dX7_addSetup_163 (by decide) ?_
              refine lv_iadd hx hb dX7_addSetup_164 ?_
              obtain rfl := Option.some.inj h
              exact g_iret hx hb hr hlocks hM hS dX7_addSetup_165
            · replace h := gif_f c12 h
              refine lv_bipush (v := (-3 : Int32)) hx hb dX7_addSetup_71 (by decide) ?_
              obtain rfl := Option.some.inj h
              exact g_iret hx hb hr hlocks hM hS dX7_addSetup_73
          · replace h := gif_t c10 h
            refine lv_bipush (v := (-2 : Int32)) hx hb dX7_addSetup_50 (by decide) ?_
            obtain rfl := Option.some.inj h
            exact g_iret hx hb hr hlocks hM hS dX7_addSetup_52
  · replace h := gif_t c2 h
    refine lv_iconst (v := (-1 : Int32)) hx hb dX7_addSetup_14 (by decide) ?_
    obtain rfl := Option.some.inj h
    exact g_iret hx hb hr hlocks hM hS dX7_addSetup_15
def f_X7_setActive (p1 : Int32) (p2 : Int32) (μ : gM) : Option (Int32 × gM) :=
  Option.bind (f_X7_isIndex p1 (gi μ 34 2) μ) (fun q1 => if ((b2i q1) = 0) then some ((-1 : Int32), μ) else Option.bind (f_X7_keepBefore (3 : Int32) p1 (gi μ 34 4) μ) (fun q3 => if (p2 = 0) then Option.bind (f_X7_countLoops  (si q3 34 4 ((gi q3 34 4) &&& (((1 : Int32) <<< (p1 &&& 31)) ^^^ (-1 : Int32))))) (fun q5 => some (q5.1, q5.2)) else Option.bind (f_X7_countLoops  (si q3 34 4 ((gi q3 34 4) ||| ((1 : Int32) <<< (p1 &&& 31))))) (fun q6 => some (q6.1, q6.2))))
set_option maxHeartbeats 4000000 in
set_option maxRecDepth 100000 in
theorem c_X7_setActive {l : Launch} {D : va_G} {cy : Nat → ClassId} {ad : Nat → Nat} {base : Nat} {p1 : Int32} {p2 : Int32} {μ : gM} {RES : Int32 × gM} (h : f_X7_setActive p1 p2 μ = some RES) : Met l yX7_setActive [.code yX7_setActive cX7_setActive 3 (some .int)] ({ frames := 4, cells := 0, slots := 0, locals := 112 } : Room) (va_Pc [.ref (ad 0), .int p1, .int p2] (gB l gFull D cy ad base μ)) (gQ (some (.int RES.1)) gFull D cy ad base RES.2) 0 0 (gA base) := by
  refine Met.ofW (cc := cX7_setActive) (maxL := 3) (ret := (some .int)) (by decide) rfl ?_
  intro p e s m args below meth c s₁ B hml0 hv
  obtain ⟨rfl, E, hM⟩ := hv
  have F : gF p s m meth c cX7_setActive RX7 3 (some .int) := gF_of B hml0
  obtain ⟨hx, hb, hml, hown, hlocks, hr⟩ := id F
  have hS : va_S (gA base) s.heap s.heap [] := va_S.rf
  have hl := lv_entry ([.ref (ad 0), .int p1, .int p2]) (n := 3) (Nat.le_of_ble_eq_true rfl)
  rw [lg_entry_eq]
  generalize (lg_sl ([.ref (ad 0), .int p1, .int p2]) ++ List.replicate (3 - (lg_sl ([.ref (ad 0), .int p1, .int p2])).length) Slot.unset).toArray = ls at hl ⊢
  have hl : lv_has ls 3 [(0, .ref (ad 0)), (1, .int p1), (2, .int p2)] := hl
  unfold f_X7_setActive at h
  refine lv_iload_n hx hb dX7_setActive_0 rfl (lv_at hl 1 rfl) ?_
  refine lv_aload_n hx hb dX7_setActive_1 rfl (lv_at hl 0 rfl) ?_
  refine gg_0_5 hx hb hown E hM hk_0 kw_463 dX7_setActive_2 ?_
  refine gg_34_2 hx hb hown E hM hk_34 kw_367 dX7_setActive_5 ?_
  obtain ⟨q1, hq1, h⟩ := gbind_e h
  refine g_callS (As := [.int p1, .int (gi μ 34 2)]) (rest := []) hx hb (hml.trans hl.1.symm) hown E hM hS hy_X7_isIndex kw_645 (c_X7_isIndex hq1) rfl rfl (Nat.le_of_ble_eq_true rfl) ⟨Nat.le_of_ble_eq_true rfl, Nat.le_of_ble_eq_true rfl⟩ ⟨Nat.le_of_ble_eq_true rfl, Nat.le_of_ble_eq_true rfl⟩ dX7_setActive_8 (fun H locs hM hS => ?_)
  refine lv_if_ne (tgt := 16) hx hb dX7_setActive_11 (by decide) (fun c2 => ?_) (fun c2 => ?_)
  · replace h := gif_f c2 h
    refine lv_aload_n hx hb dX7_setActive_16 rfl (lv_at hl 0 rfl) ?_
    refine lv_iconst (v := (3 : Int32)) hx hb dX7_setActive_17 (by decide) ?_
    refine lv_iload_n hx hb dX7_setActive_18 rfl (lv_at hl 1 rfl) ?_
    refine lv_aload_n hx hb dX7_setActive_19 rfl (lv_at hl 0 rfl) ?_
    refine gg_0_5 hx hb hown E hM hk_0 kw_463 dX7_setActive_20 ?_
    refine gg_34_4 hx hb hown E hM hk_34 kw_376 dX7_setActive_23 ?_
    obtain ⟨q3, hq3, h⟩ := gbind_e h
    refine g_callV (As := [.int (3 : Int32), .int p1, .int (gi μ 34 4)]) (rest := []) hx hb (hml.trans hl.1.symm) hown E hM hS hy_X7_keepBefore kw_822 (c_X7_keepBefore hq3) hk_0 dd_0 rfl rfl rfl (Nat.le_of_ble_eq_true rfl) ⟨Nat.le_of_ble_eq_true rfl, Nat.le_of_ble_eq_true rfl⟩ ⟨Nat.le_of_ble_eq_true rfl, Nat.le_of_ble_eq_true rfl⟩ dX7_setActive_26 (fun H locs hM hS => ?_)
    refine lv_iload_n hx hb dX7_setActive_29 rfl (lv_at hl 2 rfl) ?_
    refine lv_if_eq (tgt := 51) hx hb dX7_setActive_30 (by decide) (fun c4 => ?_) (fun c4 => ?_)
    · replace h := gif_t c4 h
      refine lv_aload_n hx hb dX7_setActive_51 rfl (lv_at hl 0 rfl) ?_
      refine gg_0_5 hx hb hown E hM hk_0 kw_463 dX7_setActive_52 ?_
      refine lv_dup hx hb dX7_setActive_55 rfl ?_
      refine gg_34_4 hx hb hown E hM hk_34 kw_376 dX7_setActive_56 ?_
      refine lv_iconst (v := (1 : Int32)) hx hb dX7_setActive_59 (by decide) ?_
      refine lv_iload_n hx hb dX7_setActive_60 rfl (lv_at hl 1 rfl) ?_
      refine lv_ishl hx hb dX7_setActive_61 ?_
      refine lv_iconst (v := (-1 : Int32)) hx hb dX7_setActive_62 (by decide) ?_
      refine lv_ixor hx hb dX7_setActive_63 ?_
      refine lv_iand hx hb dX7_setActive_64 ?_
      refine gp_34_4 hx hb hown E hM hS hk_34 kw_376 dX7_setActive_65 (fun H locs hM hS => ?_)
      refine lv_aload_n hx hb dX7_setActive_68 rfl (lv_at hl 0 rfl) ?_
      obtain ⟨q5, hq5, h⟩ := gbind_e h
      refine g_callV (As := []) (rest := []) hx hb (hml.trans hl.1.symm) hown E hM hS hy_X7_countLoops kw_711 (c_X7_countLoops hq5) hk_0 dd_0 rfl rfl rfl (Nat.le_of_ble_eq_true rfl) ⟨Nat.le_of_ble_eq_true rfl, Nat.le_of_ble_eq_true rfl⟩ ⟨Nat.le_of_ble_eq_true rfl, Nat.le_of_ble_eq_true rfl⟩ dX7_setActive_69 (fun H locs hM hS => ?_)
      obtain rfl := Option.some.inj h
      exact g_iret hx hb hr hlocks hM hS dX7_setActive_72
    · replace h := gif_f c4 h
      refine lv_aload_n hx hb dX7_setActive_33 rfl (lv_at hl 0 rfl) ?_
      refine gg_0_5 hx hb hown E hM hk_0 kw_463 dX7_setActive_34 ?_
      refine lv_dup hx hb dX7_setActive_37 rfl ?_
      refine gg_34_4 hx hb hown E hM hk_34 kw_376 dX7_setActive_38 ?_
      refine lv_iconst (v := (1 : Int32)) hx hb dX7_setActive_41 (by decide) ?_
      refine lv_iload_n hx hb dX7_setActive_42 rfl (lv_at hl 1 rfl) ?_
      refine lv_ishl hx hb dX7_setActive_43 ?_
      refine lv_ior hx hb dX7_setActive_44 ?_
      refine gp_34_4 hx hb hown E hM hS hk_34 kw_376 dX7_setActive_45 (fun H locs hM hS => ?_)
      refine lv_goto (tgt := 68) hx hb dX7_setActive_48 (by decide) ?_
      refine lv_aload_n hx hb dX7_setActive_68 rfl (lv_at hl 0 rfl) ?_
      obtain ⟨q6, hq6, h⟩ := gbind_e h
      refine g_callV (As := []) (rest := []) hx hb (hml.trans hl.1.symm) hown E hM hS hy_X7_countLoops kw_711 (c_X7_countLoops hq6) hk_0 dd_0 rfl rfl rfl (Nat.le_of_ble_eq_true rfl) ⟨Nat.le_of_ble_eq_true rfl, Nat.le_of_ble_eq_true rfl⟩ ⟨Nat.le_of_ble_eq_true rfl, Nat.le_of_ble_eq_true rfl⟩ dX7_setActive_69 (fun H locs hM hS => ?_)
      obtain rfl := Option.some.inj h
      exact g_iret hx hb hr hlocks hM hS dX7_setActive_72
  · replace h := gif_t c2 h
    refine lv_iconst (v := (-1 : Int32)) hx hb dX7_setActive_14 (by decide) ?_
    obtain rfl := Option.some.inj h
    exact g_iret hx hb hr hlocks hM hS dX7_setActive_15
def f_X7_changeCollimation (p1 : Int32) (p2 : Int32) (μ : gM) : Option (Int32 × gM) :=
  gchk (gIn p1 3) (Option.bind (f_X7_keepBefore (4 : Int32) p1 (gi μ 37 p1.toNatClampNeg) μ) (fun q2 => gchk (gIn p1 3) (some ((gi μ 37 p1.toNatClampNeg), (si q2 37 p1.toNatClampNeg p2)))))
set_option maxHeartbeats 4000000 in
set_option maxRecDepth 100000 in
theorem c_X7_changeCollimation {l : Launch} {D : va_G} {cy : Nat → ClassId} {ad : Nat → Nat} {base : Nat} {p1 : Int32} {p2 : Int32} {μ : gM} {RES : Int32 × gM} (h : f_X7_changeCollimation p1 p2 μ = some RES) : Met l yX7_changeCollimation [.code yX7_changeCollimation cX7_changeCollimation 4 (some .int)] ({ frames := 3, cells := 0, slots := 0, locals := 112 } : Room) (va_Pc [.ref (ad 0), .int p1, .int p2] (gB l gFull D cy ad base μ)) (gQ (some (.int RES.1)) gFull D cy ad base RES.2) 0 0 (gA base) := by
  refine Met.ofW (cc := cX7_changeCollimation) (maxL := 4) (ret := (some .int)) (by decide) rfl ?_
  intro p e s m args below meth c s₁ B hml0 hv
  obtain ⟨rfl, E, hM⟩ := hv
  have F : gF p s m meth c cX7_changeCollimation RX7 4 (some .int) := gF_of B hml0
  obtain ⟨hx, hb, hml, hown, hlocks, hr⟩ := id F
  have hS : va_S (gA base) s.heap s.heap [] := va_S.rf
  have hl := lv_entry ([.ref (ad 0), .int p1, .int p2]) (n := 4) (Nat.le_of_ble_eq_true rfl)
  rw [lg_entry_eq]
  generalize (lg_sl ([.ref (ad 0), .int p1, .int p2]) ++ List.replicate (4 - (lg_sl ([.ref (ad 0), .int p1, .int p2])).length) Slot.unset).toArray = ls at hl ⊢
  have hl : lv_has ls 4 [(0, .ref (ad 0)), (1, .int p1), (2, .int p2)] := hl
  unfold f_X7_changeCollimation at h
  refine lv_aload_n hx hb dX7_changeCollimation_0 rfl (lv_at hl 0 rfl) ?_
  refine gg_0_5 hx hb hown E hM hk_0 kw_463 dX7_changeCollimation_1 ?_
  refine gg_34_7 hx hb hown E hM hk_34 kw_387 dX7_changeCollimation_4 ?_
  refine lv_iload_n hx hb dX7_changeCollimation_7 rfl (lv_at hl 1 rfl) ?_
  obtain ⟨c1, h⟩ := gchk_e h
  refine g_iald hx hb E hM hk_37 dd_37 c1 dX7_changeCollimation_8 ?_
  refine lv_istore_n (lv' := [(3, .int (gi μ 37 p1.toNatClampNeg)), (0, .ref (ad 0)), (1, .int p1), (2, .int p2)]) hx hb dX7_changeCollimation_9 rfl hl (by decide) rfl (fun ls hl => ?_)
  refine lv_aload_n hx hb dX7_changeCollimation_10 rfl (lv_at hl 1 rfl) ?_
  refine lv_iconst (v := (4 : Int32)) hx hb dX7_changeCollimation_11 (by decide) ?_
  refine lv_iload_n hx hb dX7_changeCollimation_12 rfl (lv_at hl 2 rfl) ?_
  refine lv_iload_n hx hb dX7_changeCollimation_13 rfl (lv_at hl 0 rfl) ?_
  obtain ⟨q2, hq2, h⟩ := gbind_e h
  refine g_callV (As := [.int (4 : Int32), .int p1, .int (gi μ 37 p1.toNatClampNeg)]) (rest := []) hx hb (hml.trans hl.1.symm) hown E hM hS hy_X7_keepBefore kw_822 (c_X7_keepBefore hq2) hk_0 dd_0 rfl rfl rfl (Nat.le_of_ble_eq_true rfl) ⟨Nat.le_of_ble_eq_true rfl, Nat.le_of_ble_eq_true rfl⟩ ⟨Nat.le_of_ble_eq_true rfl, Nat.le_of_ble_eq_true rfl⟩ dX7_changeCollimation_14 (fun H locs hM hS => ?_)
  refine lv_aload_n hx hb dX7_changeCollimation_17 rfl (lv_at hl 1 rfl) ?_
  refine gg_0_5 hx hb hown E hM hk_0 kw_463 dX7_changeCollimation_18 ?_
  refine gg_34_7 hx hb hown E hM hk_34 kw_387 dX7_changeCollimation_21 ?_
  refine lv_iload_n hx hb dX7_changeCollimation_24 rfl (lv_at hl 2 rfl) ?_
  refine lv_iload_n hx hb dX7_changeCollimation_25 rfl (lv_at hl 3 rfl) ?_
  obtain ⟨c3, h⟩ := gchk_e h
  refine g_iast hx hb E hM hS hk_37 dd_37 c3 dX7_changeCollimation_26 (fun H locs hM hS => ?_)
  refine lv_iload_n hx hb dX7_changeCollimation_27 rfl (lv_at hl 0 rfl) ?_
  obtain rfl := Option.some.inj h
  exact g_iret hx hb hr hlocks hM hS dX7_changeCollimation_28
def f_X7_setCollimation (p1 : Int32) (p2 : Int32) (μ : gM) : Option (Int32 × gM) :=
  Option.bind (f_X7_isIndex p1 (gi μ 34 0) μ) (fun q1 => if ((b2i q1) = 0) then some ((-2147483648 : Int32), μ) else if (p2 < (-200 : Int32)) then some ((-2147483648 : Int32), μ) else if (p2 ≤ (200 : Int32)) then Option.bind (f_X7_changeCollimation p1 p2 μ) (fun q5 => some (q5.1, q5.2)) else some ((-2147483648 : Int32), μ))
set_option maxHeartbeats 4000000 in
set_option maxRecDepth 100000 in
theorem c_X7_setCollimation {l : Launch} {D : va_G} {cy : Nat → ClassId} {ad : Nat → Nat} {base : Nat} {p1 : Int32} {p2 : Int32} {μ : gM} {RES : Int32 × gM} (h : f_X7_setCollimation p1 p2 μ = some RES) : Met l yX7_setCollimation [.code yX7_setCollimation cX7_setCollimation 3 (some .int)] ({ frames := 4, cells := 0, slots := 0, locals := 135 } : Room) (va_Pc [.ref (ad 0), .int p1, .int p2] (gB l gFull D cy ad base μ)) (gQ (some (.int RES.1)) gFull D cy ad base RES.2) 0 0 (gA base) := by
  refine Met.ofW (cc := cX7_setCollimation) (maxL := 3) (ret := (some .int)) (by decide) rfl ?_
  intro p e s m args below meth c s₁ B hml0 hv
  obtain ⟨rfl, E, hM⟩ := hv
  have F : gF p s m meth c cX7_setCollimation RX7 3 (some .int) := gF_of B hml0
  obtain ⟨hx, hb, hml, hown, hlocks, hr⟩ := id F
  have hS : va_S (gA base) s.heap s.heap [] := va_S.rf
  have hl := lv_entry ([.ref (ad 0), .int p1, .int p2]) (n := 3) (Nat.le_of_ble_eq_true rfl)
  rw [lg_entry_eq]
  generalize (lg_sl ([.ref (ad 0), .int p1, .int p2]) ++ List.replicate (3 - (lg_sl ([.ref (ad 0), .int p1, .int p2])).length) Slot.unset).toArray = ls at hl ⊢
  have hl : lv_has ls 3 [(0, .ref (ad 0)), (1, .int p1), (2, .int p2)] := hl
  unfold f_X7_setCollimation at h
  refine lv_iload_n hx hb dX7_setCollimation_0 rfl (lv_at hl 1 rfl) ?_
  refine lv_aload_n hx hb dX7_setCollimation_1 rfl (lv_at hl 0 rfl) ?_
  refine gg_0_5 hx hb hown E hM hk_0 kw_463 dX7_setCollimation_2 ?_
  refine gg_34_0 hx hb hown E hM hk_34 kw_354 dX7_setCollimation_5 ?_
  obtain ⟨q1, hq1, h⟩ := gbind_e h
  refine g_callS (As := [.int p1, .int (gi μ 34 0)]) (rest := []) hx hb (hml.trans hl.1.symm) hown E hM hS hy_X7_isIndex kw_645 (c_X7_isIndex hq1) rfl rfl (Nat.le_of_ble_eq_true rfl) ⟨Nat.le_of_ble_eq_true rfl, Nat.le_of_ble_eq_true rfl⟩ ⟨Nat.le_of_ble_eq_true rfl, Nat.le_of_ble_eq_true rfl⟩ dX7_setCollimation_8 (fun H locs hM hS => ?_)
  refine lv_if_eq (tgt := 28) hx hb dX7_setCollimation_11 (by decide) (fun c2 => ?_) (fun c2 => ?_)
  · replace h := gif_t c2 h
    refine lv_ldc hx hb hown (v := (-2147483648 : Int32)) (E.kw kw_868) dX7_setCollimation_28 ?_
    obtain rfl := Option.some.inj h
    exact g_iret hx hb hr hlocks hM hS dX7_setCollimation_30
  · replace h := gif_f c2 h
    refine lv_iload_n hx hb dX7_setCollimation_14 rfl (lv_at hl 2 rfl) ?_
    refine lv_sipush (v := (-200 : Int32)) hx hb dX7_setCollimation_15 (by decide) ?_
    refine lv_icmp_lt (tgt := 28) hx hb dX7_setCollimation_18 (by decide) (fun c3 => ?_) (fun c3 => ?_)
    · replace h := gif_t c3 h
      refine lv_ldc hx hb hown (v := (-2147483648 : Int32)) (E.kw kw_868) dX7_setCollimation_28 ?_
      obtain rfl := Option.some.inj h
      exact g_iret hx hb hr hlocks hM hS dX7_setCollimation_30
    · replace h := gif_f c3 h
      refine lv_iload_n hx hb dX7_setCollimation_21 rfl (lv_at hl 2 rfl) ?_
      refine lv_sipush (v := (200 : Int32)) hx hb dX7_setCollimation_22 (by decide) ?_
      refine lv_icmp_le (tgt := 31) hx hb dX7_setCollimation_25 (by decide) (fun c4 => ?_) (fun c4 => ?_)
      · replace h := gif_t c4 h
        refine lv_aload_n hx hb dX7_setCollimation_31 rfl (lv_at hl 0 rfl) ?_
        refine lv_iload_n hx hb dX7_setCollimation_32 rfl (lv_at hl 1 rfl) ?_
        refine lv_iload_n hx hb dX7_setCollimation_33 rfl (lv_at hl 2 rfl) ?_
        obtain ⟨q5, hq5, h⟩ := gbind_e h
        refine g_callV (As := [.int p1, .int p2]) (rest := []) hx hb (hml.trans hl.1.symm) hown E hM hS hy_X7_changeCollimation kw_869 (c_X7_changeCollimation hq5) hk_0 dd_0 rfl rfl rfl (Nat.le_of_ble_eq_true rfl) ⟨Nat.le_of_ble_eq_true rfl, Nat.le_of_ble_eq_true rfl⟩ ⟨Nat.le_of_ble_eq_true rfl, Nat.le_of_ble_eq_true rfl⟩ dX7_setCollimation_34 (fun H locs hM hS => ?_)
        obtain rfl := Option.some.inj h
        exact g_iret hx hb hr hlocks hM hS dX7_setCollimation_37
      · replace h := gif_f c4 h
        refine lv_ldc hx hb hown (v := (-2147483648 : Int32)) (E.kw kw_868) dX7_setCollimation_28 ?_
        obtain rfl := Option.some.inj h
        exact g_iret hx hb hr hlocks hM hS dX7_setCollimation_30
def f_X7_applyTest (p1 : Int32) (μ : gM) : Option (Int32 × gM) :=
  Option.bind (f_X7_isIndex p1 (gi μ 34 3) μ) (fun q1 => if ((b2i q1) = 0) then some ((-2147483648 : Int32), μ) else Option.bind (f_X3_testResult p1 μ) (fun q3 => if (q3 = (-2147483648 : Int32)) then some ((-2147483648 : Int32), μ) else gchk (gIn p1 6) (Option.bind (f_X7_changeCollimation (gi μ 45 p1.toNatClampNeg) q3 μ) (fun q6 => some (q6.1, q6.2)))))
set_option maxHeartbeats 4000000 in
set_option maxRecDepth 100000 in
theorem c_X7_applyTest {l : Launch} {D : va_G} {cy : Nat → ClassId} {ad : Nat → Nat} {base : Nat} {p1 : Int32} {μ : gM} {RES : Int32 × gM} (h : f_X7_applyTest p1 μ = some RES) : Met l yX7_applyTest [.code yX7_applyTest cX7_applyTest 3 (some .int)] ({ frames := 4, cells := 0, slots := 0, locals := 135 } : Room) (va_Pc [.ref (ad 0), .int p1] (gB l gFull D cy ad base μ)) (gQ (some (.int RES.1)) gFull D cy ad base RES.2) 0 0 (gA base) := by
  refine Met.ofW (cc := cX7_applyTest) (maxL := 3) (ret := (some .int)) (by decide) rfl ?_
  intro p e s m args below meth c s₁ B hml0 hv
  obtain ⟨rfl, E, hM⟩ := hv
  have F : gF p s m meth c cX7_applyTest RX7 3 (some .int) := gF_of B hml0
  obtain ⟨hx, hb, hml, hown, hlocks, hr⟩ := id F
  have hS : va_S (gA base) s.heap s.heap [] := va_S.rf
  have hl := lv_entry ([.ref (ad 0), .int p1]) (n := 3) (Nat.le_of_ble_eq_true rfl)
  rw [lg_entry_eq]
  generalize (lg_sl ([.ref (ad 0), .int p1]) ++ List.replicate (3 - (lg_sl ([.ref (ad 0), .int p1])).length) Slot.unset).toArray = ls at hl ⊢
  have hl : lv_has ls 3 [(0, .ref (ad 0)), (1, .int p1)] := hl
  unfold f_X7_applyTest at h
  refine lv_iload_n hx hb dX7_applyTest_0 rfl (lv_at hl 1 rfl) ?_
  refine lv_aload_n hx hb dX7_applyTest_1 rfl (lv_at hl 0 rfl) ?_
  refine gg_0_5 hx hb hown E hM hk_0 kw_463 dX7_applyTest_2 ?_
  refine gg_34_3 hx hb hown E hM hk_34 kw_370 dX7_applyTest_5 ?_
  obtain ⟨q1, hq1, h⟩ := gbind_e h
  refine g_callS (As := [.int p1, .int (gi μ 34 3)]) (rest := []) hx hb (hml.trans hl.1.symm) hown E hM hS hy_X7_isIndex kw_645 (c_X7_isIndex hq1) rfl rfl (Nat.le_of_ble_eq_true rfl) ⟨Nat.le_of_ble_eq_true rfl, Nat.le_of_ble_eq_true rfl⟩ ⟨Nat.le_of_ble_eq_true rfl, Nat.le_of_ble_eq_true rfl⟩ dX7_applyTest_8 (fun H locs hM hS => ?_)
  refine lv_if_ne (tgt := 17) hx hb dX7_applyTest_11 (by decide) (fun c2 => ?_) (fun c2 => ?_)
  · replace h := gif_f c2 h
    refine lv_aload_n hx hb dX7_applyTest_17 rfl (lv_at hl 0 rfl) ?_
    refine gg_0_5 hx hb hown E hM hk_0 kw_463 dX7_applyTest_18 ?_
    refine lv_iload_n hx hb dX7_applyTest_21 rfl (lv_at hl 1 rfl) ?_
    obtain ⟨q3, hq3, h⟩ := gbind_e h
    refine g_callV (As := [.int p1]) (rest := []) hx hb (hml.trans hl.1.symm) hown E hM hS hy_X3_testResult kw_877 (c_X3_testResult hq3) hk_34 dd_34 rfl rfl rfl (Nat.le_of_ble_eq_true rfl) ⟨Nat.le_of_ble_eq_true rfl, Nat.le_of_ble_eq_true rfl⟩ ⟨Nat.le_of_ble_eq_true rfl, Nat.le_of_ble_eq_true rfl⟩ dX7_applyTest_22 (fun H locs hM hS => ?_)
    refine lv_istore_n (lv' := [(2, .int q3), (0, .ref (ad 0)), (1, .int p1)]) hx hb dX7_applyTest_25 rfl hl (by decide) rfl (fun ls hl => ?_)
    refine lv_iload_n hx hb dX7_applyTest_26 rfl (lv_at hl 0 rfl) ?_
    refine lv_ldc hx hb hown (v := (-2147483648 : Int32)) (E.kw kw_868) dX7_applyTest_27 ?_
    refine lv_icmp_ne (tgt := 35) hx hb dX7_applyTest_29 (by decide) (fun c4 => ?_) (fun c4 => ?_)
    · replace h := gif_f c4 h
      refine lv_aload_n hx hb dX7_applyTest_35 rfl (lv_at hl 1 rfl) ?_
      refine lv_aload_n hx hb dX7_applyTest_36 rfl (lv_at hl 1 rfl) ?_
      refine gg_0_5 hx hb hown E hM hk_0 kw_463 dX7_applyTest_37 ?_
      refine gg_34_15 hx hb hown E hM hk_34 kw_420 dX7_applyTest_40 ?_
      refine lv_iload_n hx hb dX7_applyTest_43 rfl (lv_at hl 2 rfl) ?_
      obtain ⟨c5, h⟩ := gchk_e h
      refine g_iald hx hb E hM hk_45 dd_45 c5 dX7_applyTest_44 ?_
      refine lv_iload_n hx hb dX7_applyTest_45 rfl (lv_at hl 0 rfl) ?_
      obtain ⟨q6, hq6, h⟩ := gbind_e h
      refine g_callV (As := [.int (gi μ 45 p1.toNatClampNeg), .int q3]) (rest := []) hx hb (hml.trans hl.1.symm) hown E hM hS hy_X7_changeCollimation kw_869 (c_X7_changeCollimation hq6) hk_0 dd_0 rfl rfl rfl (Nat.le_of_ble_eq_true rfl) ⟨Nat.le_of_ble_eq_true rfl, Nat.le_of_ble_eq_true rfl⟩ ⟨Nat.le_of_ble_eq_true rfl, Nat.le_of_ble_eq_true rfl⟩ dX7_applyTest_46 (fun H locs hM hS => ?_)
      obtain rfl := Option.some.inj h
      exact g_iret hx hb hr hlocks hM hS dX7_applyTest_49
    · replace h := gif_t c4 h
      refine lv_ldc hx hb hown (v := (-2147483648 : Int32)) (E.kw kw_868) dX7_applyTest_32 ?_
      obtain rfl := Option.some.inj h
      exact g_iret hx hb hr hlocks hM hS dX7_applyTest_34
  · replace h := gif_t c2 h
    refine lv_ldc hx hb hown (v := (-2147483648 : Int32)) (E.kw kw_868) dX7_applyTest_14 ?_
    obtain rfl := Option.some.inj h
    exact g_iret hx hb hr hlocks hM hS dX7_applyTest_16
def f_X7_adjust (p1 : Int32) (μ : gM) : Option (Int32 × gM) :=
  if (p1 < (1 : Int32)) then some ((-2 : Int32), μ) else if (p1 ≤ (200 : Int32)) then Option.bind (f_X7_keepBefore (6 : Int32) (0 : Int32) (0 : Int32) μ) (fun q3 => Option.bind (f_X0_settle p1 q3) (fun q4 => some (q4.1, q4.2))) else some ((-2 : Int32), μ)
set_option maxHeartbeats 4000000 in
set_option maxRecDepth 100000 in
theorem c_X7_adjust {l : Launch} {D : va_G} {cy : Nat → ClassId} {ad : Nat → Nat} {base : Nat} {p1 : Int32} {μ : gM} {RES : Int32 × gM} (h : f_X7_adjust p1 μ = some RES) : Met l yX7_adjust [.code yX7_adjust cX7_adjust 2 (some .int)] ({ frames := 6, cells := 0, slots := 0, locals := 140 } : Room) (va_Pc [.ref (ad 0), .int p1] (gB l gFull D cy ad base μ)) (gQ (some (.int RES.1)) gFull D cy ad base RES.2) 0 0 (gA base) := by
  refine Met.ofW (cc := cX7_adjust) (maxL := 2) (ret := (some .int)) (by decide) rfl ?_
  intro p e s m args below meth c s₁ B hml0 hv
  obtain ⟨rfl, E, hM⟩ := hv
  have F : gF p s m meth c cX7_adjust RX7 2 (some .int) := gF_of B hml0
  obtain ⟨hx, hb, hml, hown, hlocks, hr⟩ := id F
  have hS : va_S (gA base) s.heap s.heap [] := va_S.rf
  have hl := lv_entry ([.ref (ad 0), .int p1]) (n := 2) (Nat.le_of_ble_eq_true rfl)
  rw [lg_entry_eq]
  generalize (lg_sl ([.ref (ad 0), .int p1]) ++ List.replicate (2 - (lg_sl ([.ref (ad 0), .int p1])).length) Slot.unset).toArray = ls at hl ⊢
  have hl : lv_has ls 2 [(0, .ref (ad 0)), (1, .int p1)] := hl
  unfold f_X7_adjust at h
  refine lv_iload_n hx hb dX7_adjust_0 rfl (lv_at hl 1 rfl) ?_
  refine lv_iconst (v := (1 : Int32)) hx hb dX7_adjust_1 (by decide) ?_
  refine lv_icmp_lt (tgt := 12) hx hb dX7_adjust_2 (by decide) (fun c1 => ?_) (fun c1 => ?_)
  · replace h := gif_t c1 h
    refine lv_bipush (v := (-2 : Int32)) hx hb dX7_adjust_12 (by decide) ?_
    obtain rfl := Option.some.inj h
    exact g_iret hx hb hr hlocks hM hS dX7_adjust_14
  · replace h := gif_f c1 h
    refine lv_iload_n hx hb dX7_adjust_5 rfl (lv_at hl 1 rfl) ?_
    refine lv_sipush (v := (200 : Int32)) hx hb dX7_adjust_6 (by decide) ?_
    refine lv_icmp_le (tgt := 15) hx hb dX7_adjust_9 (by decide) (fun c2 => ?_) (fun c2 => ?_)
    · replace h := gif_t c2 h
      refine lv_aload_n hx hb dX7_adjust_15 rfl (lv_at hl 0 rfl) ?_
      refine lv_bipush (v := (6 : Int32)) hx hb dX7_adjust_16 (by decide) ?_
      refine lv_iconst (v := (0 : Int32)) hx hb dX7_adjust_18 (by decide) ?_
      refine lv_iconst (v := (0 : Int32)) hx hb dX7_adjust_19 (by decide) ?_
      obtain ⟨q3, hq3, h⟩ := gbind_e h
      refine g_callV (As := [.int (6 : Int32), .int (0 : Int32), .int (0 : Int32)]) (rest := []) hx hb (hml.trans hl.1.symm) hown E hM hS hy_X7_keepBefore kw_822 (c_X7_keepBefore hq3) hk_0 dd_0 rfl rfl rfl (Nat.le_of_ble_eq_true rfl) ⟨Nat.le_of_ble_eq_true rfl, Nat.le_of_ble_eq_true rfl⟩ ⟨Nat.le_of_ble_eq_true rfl, Nat.le_of_ble_eq_true rfl⟩ dX7_adjust_20 (fun H locs hM hS => ?_)
      refine lv_aload_n hx hb dX7_adjust_23 rfl (lv_at hl 0 rfl) ?_
      refine gg_0_3 hx hb hown E hM hk_0 kw_461 dX7_adjust_24 ?_
      refine lv_aload_n hx hb dX7_adjust_27 rfl (lv_at hl 0 rfl) ?_
      refine gg_0_5 hx hb hown E hM hk_0 kw_463 dX7_adjust_28 ?_
      refine lv_iload_n hx hb dX7_adjust_31 rfl (lv_at hl 1 rfl) ?_
      obtain ⟨q4, hq4, h⟩ := gbind_e h
      refine g_callV (As := [.ref (ad 34), .int p1]) (rest := []) hx hb (hml.trans hl.1.symm) hown E hM hS hy_X0_settle kw_890 (c_X0_settle hq4) hk_20 dd_20 rfl rfl rfl (Nat.le_of_ble_eq_true rfl) ⟨Nat.le_of_ble_eq_true rfl, Nat.le_of_ble_eq_true rfl⟩ ⟨Nat.le_of_ble_eq_true rfl, Nat.le_of_ble_eq_true rfl⟩ dX7_adjust_32 (fun H locs hM hS => ?_)
      obtain rfl := Option.some.inj h
      exact g_iret hx hb hr hlocks hM hS dX7_adjust_35
    · replace h := gif_f c2 h
      refine lv_bipush (v := (-2 : Int32)) hx hb dX7_adjust_12 (by decide) ?_
      obtain rfl := Option.some.inj h
      exact g_iret hx hb hr hlocks hM hS dX7_adjust_14
def f_X7_setSetting (p1 : Int32) (p2 : Int32) (μ : gM) : Option (Int32 × gM) :=
  Option.bind (f_X7_isIndex p1 (3 : Int32) μ) (fun q1 => if ((b2i q1) = 0) then some ((-2 : Int32), μ) else gchk (gIn p1 3) (if (p2 < (sc 2 p1.toNatClampNeg)) then some ((-2 : Int32), μ) else gchk (gIn p1 3) (if (p2 ≤ (sc 3 p1.toNatClampNeg)) then gchk (gIn p1 3) (Option.bind (f_X7_keepBefore (5 : Int32) p1 (gi μ 35 p1.toNatClampNeg) μ) (fun q8 => gchk (gIn p1 3) (some ((gi μ 35 p1.toNatClampNeg), (si q8 35 p1.toNatClampNeg p2))))) else some ((-2 : Int32), μ))))
set_option maxHeartbeats 4000000 in
set_option maxRecDepth 100000 in
theorem c_X7_setSetting {l : Launch} {D : va_G} {cy : Nat → ClassId} {ad : Nat → Nat} {base : Nat} {p1 : Int32} {p2 : Int32} {μ : gM} {RES : Int32 × gM} (h : f_X7_setSetting p1 p2 μ = some RES) : Met l yX7_setSetting [.code yX7_setSetting cX7_setSetting 4 (some .int)] ({ frames := 3, cells := 0, slots := 0, locals := 112 } : Room) (va_Pc [.ref (ad 0), .int p1, .int p2] (gB l gFull D cy ad base μ)) (gQ (some (.int RES.1)) gFull D cy ad base RES.2) 0 0 (gA base) := by
  refine Met.ofW (cc := cX7_setSetting) (maxL := 4) (ret := (some .int)) (by decide) rfl ?_
  intro p e s m args below meth c s₁ B hml0 hv
  obtain ⟨rfl, E, hM⟩ := hv
  have F : gF p s m meth c cX7_setSetting RX7 4 (some .int) := gF_of B hml0
  obtain ⟨hx, hb, hml, hown, hlocks, hr⟩ := id F
  have hS : va_S (gA base) s.heap s.heap [] := va_S.rf
  have hl := lv_entry ([.ref (ad 0), .int p1, .int p2]) (n := 4) (Nat.le_of_ble_eq_true rfl)
  rw [lg_entry_eq]
  generalize (lg_sl ([.ref (ad 0), .int p1, .int p2]) ++ List.replicate (4 - (lg_sl ([.ref (ad 0), .int p1, .int p2])).length) Slot.unset).toArray = ls at hl ⊢
  have hl : lv_has ls 4 [(0, .ref (ad 0)), (1, .int p1), (2, .int p2)] := hl
  unfold f_X7_setSetting at h
  refine lv_iload_n hx hb dX7_setSetting_0 rfl (lv_at hl 1 rfl) ?_
  refine lv_iconst (v := (3 : Int32)) hx hb dX7_setSetting_1 (by decide) ?_
  obtain ⟨q1, hq1, h⟩ := gbind_e h
  refine g_callS (As := [.int p1, .int (3 : Int32)]) (rest := []) hx hb (hml.trans hl.1.symm) hown E hM hS hy_X7_isIndex kw_645 (c_X7_isIndex hq1) rfl rfl (Nat.le_of_ble_eq_true rfl) ⟨Nat.le_of_ble_eq_true rfl, Nat.le_of_ble_eq_true rfl⟩ ⟨Nat.le_of_ble_eq_true rfl, Nat.le_of_ble_eq_true rfl⟩ dX7_setSetting_2 (fun H locs hM hS => ?_)
  refine lv_if_eq (tgt := 26) hx hb dX7_setSetting_5 (by decide) (fun c2 => ?_) (fun c2 => ?_)
  · replace h := gif_t c2 h
    refine lv_bipush (v := (-2 : Int32)) hx hb dX7_setSetting_26 (by decide) ?_
    obtain rfl := Option.some.inj h
    exact g_iret hx hb hr hlocks hM hS dX7_setSetting_28
  · replace h := gif_f c2 h
    refine lv_iload_n hx hb dX7_setSetting_8 rfl (lv_at hl 2 rfl) ?_
    refine g_gets hx hb hown E hS 2 (by decide) (gSt_2) kw_917 dX7_setSetting_9 ?_
    refine lv_iload_n hx hb dX7_setSetting_12 rfl (lv_at hl 1 rfl) ?_
    obtain ⟨c3, h⟩ := gchk_e h
    refine g_sti hx hb E hS 2 (n := 3) (by decide) rfl rfl c3 dX7_setSetting_13 ?_
    refine lv_icmp_lt (tgt := 26) hx hb dX7_setSetting_14 (by decide) (fun c4 => ?_) (fun c4 => ?_)
    · replace h := gif_t c4 h
      refine lv_bipush (v := (-2 : Int32)) hx hb dX7_setSetting_26 (by decide) ?_
      obtain rfl := Option.some.inj h
      exact g_iret hx hb hr hlocks hM hS dX7_setSetting_28
    · replace h := gif_f c4 h
      refine lv_iload_n hx hb dX7_setSetting_17 rfl (lv_at hl 2 rfl) ?_
      refine g_gets hx hb hown E hS 3 (by decide) (gSt_3) kw_918 dX7_setSetting_18 ?_
      refine lv_iload_n hx hb dX7_setSetting_21 rfl (lv_at hl 1 rfl) ?_
      obtain ⟨c5, h⟩ := gchk_e h
      refine g_sti hx hb E hS 3 (n := 3) (by decide) rfl rfl c5 dX7_setSetting_22 ?_
      refine lv_icmp_le (tgt := 29) hx hb dX7_setSetting_23 (by decide) (fun c6 => ?_) (fun c6 => ?_)
      · replace h := gif_t c6 h
        refine lv_aload_n hx hb dX7_setSetting_29 rfl (lv_at hl 0 rfl) ?_
        refine gg_0_5 hx hb hown E hM hk_0 kw_463 dX7_setSetting_30 ?_
        refine gg_34_5 hx hb hown E hM hk_34 kw_381 dX7_setSetting_33 ?_
        refine lv_iload_n hx hb dX7_setSetting_36 rfl (lv_at hl 1 rfl) ?_
        obtain ⟨c7, h⟩ := gchk_e h
        refine g_iald hx hb E hM hk_35 dd_35 c7 dX7_setSetting_37 ?_
        refine lv_istore_n (lv' := [(3, .int (gi μ 35 p1.toNatClampNeg)), (0, .ref (ad 0)), (1, .int p1), (2, .int p2)]) hx hb dX7_setSetting_38 rfl hl (by decide) rfl (fun ls hl => ?_)
        refine lv_aload_n hx hb dX7_setSetting_39 rfl (lv_at hl 1 rfl) ?_
        refine lv_iconst (v := (5 : Int32)) hx hb dX7_setSetting_40 (by decide) ?_
        refine lv_iload_n hx hb dX7_setSetting_41 rfl (lv_at hl 2 rfl) ?_
        refine lv_iload_n hx hb dX7_setSetting_42 rfl (lv_at hl 0 rfl) ?_
        obtain ⟨q8, hq8, h⟩ := gbind_e h
        refine g_callV (As := [.int (5 : Int32), .int p1, .int (gi μ 35 p1.toNatClampNeg)]) (rest := []) hx hb (hml.trans hl.1.symm) hown E hM hS hy_X7_keepBefore kw_822 (c_X7_keepBefore hq8) hk_0 dd_0 rfl rfl rfl (Nat.le_of_ble_eq_true rfl) ⟨Nat.le_of_ble_eq_true rfl, Nat.le_of_ble_eq_true rfl⟩ ⟨Nat.le_of_ble_eq_true rfl, Nat.le_of_ble_eq_true rfl⟩ dX7_setSetting_43 (fun H locs hM hS => ?_)
        refine lv_aload_n hx hb dX7_setSetting_46 rfl (lv_at hl 1 rfl) ?_
        refine gg_0_5 hx hb hown E hM hk_0 kw_463 dX7_setSetting_47 ?_
        refine gg_34_5 hx hb hown E hM hk_34 kw_381 dX7_setSetting_50 ?_
        refine lv_iload_n hx hb dX7_setSetting_53 rfl (lv_at hl 2 rfl) ?_
        refine lv_iload_n hx hb dX7_setSetting_54 rfl (lv_at hl 3 rfl) ?_
        obtain ⟨c9, h⟩ := gchk_e h
        refine g_iast hx hb E hM hS hk_35 dd_35 c9 dX7_setSetting_55 (fun H locs hM hS => ?_)
        refine lv_iload_n hx hb dX7_setSetting_56 rfl (lv_at hl 0 rfl) ?_
        obtain rfl := Option.some.inj h
        exact g_iret hx hb hr hlocks hM hS dX7_setSetting_57
      · replace h := gif_f c6 h
        refine lv_bipush (v := (-2 : Int32)) hx hb dX7_setSetting_26 (by decide) ?_
        obtain rfl := Option.some.inj h
        exact g_iret hx hb hr hlocks hM hS dX7_setSetting_28
def f_X7_undo (μ : gM) : Option (Int32 × gM) :=
  if ((gi μ 28 0) = 0) then some ((-1 : Int32), μ) else Option.bind (f_X1_takeBack  μ) (fun q2 => some ((gi q2 28 0), q2))
set_option maxHeartbeats 4000000 in
set_option maxRecDepth 100000 in
theorem c_X7_undo {l : Launch} {D : va_G} {cy : Nat → ClassId} {ad : Nat → Nat} {base : Nat}  {μ : gM} {RES : Int32 × gM} (h : f_X7_undo  μ = some RES) : Met l yX7_undo [.code yX7_undo cX7_undo 1 (some .int)] ({ frames := 2, cells := 0, slots := 0, locals := 89 } : Room) (va_Pc [.ref (ad 0)] (gB l gFull D cy ad base μ)) (gQ (some (.int RES.1)) gFull D cy ad base RES.2) 0 0 (gA base) := by
  refine Met.ofW (cc := cX7_undo) (maxL := 1) (ret := (some .int)) (by decide) rfl ?_
  intro p e s m args below meth c s₁ B hml0 hv
  obtain ⟨rfl, E, hM⟩ := hv
  have F : gF p s m meth c cX7_undo RX7 1 (some .int) := gF_of B hml0
  obtain ⟨hx, hb, hml, hown, hlocks, hr⟩ := id F
  have hS : va_S (gA base) s.heap s.heap [] := va_S.rf
  have hl := lv_entry ([.ref (ad 0)]) (n := 1) (Nat.le_of_ble_eq_true rfl)
  rw [lg_entry_eq]
  generalize (lg_sl ([.ref (ad 0)]) ++ List.replicate (1 - (lg_sl ([.ref (ad 0)])).length) Slot.unset).toArray = ls at hl ⊢
  have hl : lv_has ls 1 [(0, .ref (ad 0))] := hl
  unfold f_X7_undo at h
  refine lv_aload_n hx hb dX7_undo_0 rfl (lv_at hl 0 rfl) ?_
  refine gg_0_4 hx hb hown E hM hk_0 kw_462 dX7_undo_1 ?_
  refine gg_28_0 hx hb hown E hM hk_28 kw_317 dX7_undo_4 ?_
  refine lv_if_ne (tgt := 12) hx hb dX7_undo_7 (by decide) (fun c1 => ?_) (fun c1 => ?_)
  · replace h := gif_f c1 h
    refine lv_aload_n hx hb dX7_undo_12 rfl (lv_at hl 0 rfl) ?_
    refine gg_0_4 hx hb hown E hM hk_0 kw_462 dX7_undo_13 ?_
    refine lv_aload_n hx hb dX7_undo_16 rfl (lv_at hl 0 rfl) ?_
    refine gg_0_5 hx hb hown E hM hk_0 kw_463 dX7_undo_17 ?_
    refine lv_aload_n hx hb dX7_undo_20 rfl (lv_at hl 0 rfl) ?_
    refine gg_0_3 hx hb hown E hM hk_0 kw_461 dX7_undo_21 ?_
    obtain ⟨q2, hq2, h⟩ := gbind_e h
    refine g_callV (As := [.ref (ad 34), .ref (ad 20)]) (rest := []) hx hb (hml.trans hl.1.symm) hown E hM hS hy_X1_takeBack kw_923 (c_X1_takeBack hq2) hk_28 dd_28 rfl rfl rfl (Nat.le_of_ble_eq_true rfl) ⟨Nat.le_of_ble_eq_true rfl, Nat.le_of_ble_eq_true rfl⟩ ⟨Nat.le_of_ble_eq_true rfl, Nat.le_of_ble_eq_true rfl⟩ dX7_undo_24 (fun H locs hM hS => ?_)
    refine lv_aload_n hx hb dX7_undo_27 rfl (lv_at hl 0 rfl) ?_
    refine gg_0_4 hx hb hown E hM hk_0 kw_462 dX7_undo_28 ?_
    refine gg_28_0 hx hb hown E hM hk_28 kw_317 dX7_undo_31 ?_
    obtain rfl := Option.some.inj h
    exact g_iret hx hb hr hlocks hM hS dX7_undo_34
  · replace h := gif_t c1 h
    refine lv_iconst (v := (-1 : Int32)) hx hb dX7_undo_10 (by decide) ?_
    obtain rfl := Option.some.inj h
    exact g_iret hx hb hr hlocks hM hS dX7_undo_11
