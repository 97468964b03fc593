theorem dX8_thrown_0 : decode cX8_thrown 0 = .ok (.aload_n 0, 1) := by decide +kernel
theorem dX8_thrown_1 : decode cX8_thrown 1 = .ok (.getfield 68, 3) := by decide +kernel
theorem dX8_thrown_4 : decode cX8_thrown 4 = .ok (.ireturn, 1) := by decide +kernel
theorem dX8_inRange_0 : decode cX8_inRange 0 = .ok (.iload_n 0, 1) := by decide +kernel
theorem dX8_inRange_1 : decode cX8_inRange 1 = .ok (.iload_n 1, 1) := by decide +kernel
theorem dX8_inRange_2 : decode cX8_inRange 2 = .ok (.if_icmp .lt 12, 3) := by decide +kernel
theorem dX8_inRange_5 : decode cX8_inRange 5 = .ok (.iload_n 0, 1) := by decide +kernel
theorem dX8_inRange_6 : decode cX8_inRange 6 = .ok (.iload_n 2, 1) := by decide +kernel
theorem dX8_inRange_7 : decode cX8_inRange 7 = .ok (.if_icmp .gt 7, 3) := by decide +kernel
theorem dX8_inRange_10 : decode cX8_inRange 10 = .ok (.iconst 1, 1) := by decide +kernel
theorem dX8_inRange_11 : decode cX8_inRange 11 = .ok (.goto 4, 3) := by decide +kernel
theorem dX8_inRange_14 : decode cX8_inRange 14 = .ok (.iconst 0, 1) := by decide +kernel
theorem dX8_inRange_15 : decode cX8_inRange 15 = .ok (.ireturn, 1) := by decide +kernel
theorem dX8_has_0 : decode cX8_has 0 = .ok (.iload_n 0, 1) := by decide +kernel
theorem dX8_has_1 : decode cX8_has 1 = .ok (.iload_n 1, 1) := by decide +kernel
theorem dX8_has_2 : decode cX8_has 2 = .ok (.ishr, 1) := by decide +kernel
theorem dX8_has_3 : decode cX8_has 3 = .ok (.iconst 1, 1) := by decide +kernel
theorem dX8_has_4 : decode cX8_has 4 = .ok (.iand, 1) := by decide +kernel
theorem dX8_has_5 : decode cX8_has 5 = .ok (.iconst 1, 1) := by decide +kernel
theorem dX8_has_6 : decode cX8_has 6 = .ok (.if_icmp .ne 7, 3) := by decide +kernel
theorem dX8_has_9 : decode cX8_has 9 = .ok (.iconst 1, 1) := by decide +kernel
theorem dX8_has_10 : decode cX8_has 10 = .ok (.goto 4, 3) := by decide +kernel
theorem dX8_has_13 : decode cX8_has 13 = .ok (.iconst 0, 1) := by decide +kernel
theorem dX8_has_14 : decode cX8_has 14 = .ok (.ireturn, 1) := by decide +kernel
theorem dX8_size_0 : decode cX8_size 0 = .ok (.lload_n 0, 1) := by decide +kernel
theorem dX8_size_1 : decode cX8_size 1 = .ok (.lconst 0, 1) := by decide +kernel
theorem dX8_size_2 : decode cX8_size 2 = .ok (.lcmp, 1) := by decide +kernel
theorem dX8_size_3 : decode cX8_size 3 = .ok (.ifCond .ge 8, 3) := by decide +kernel
theorem dX8_size_6 : decode cX8_size 6 = .ok (.lload_n 0, 1) := by decide +kernel
theorem dX8_size_7 : decode cX8_size 7 = .ok (.lneg, 1) := by decide +kernel
theorem dX8_size_8 : decode cX8_size 8 = .ok (.goto 4, 3) := by decide +kernel
theorem dX8_size_11 : decode cX8_size 11 = .ok (.lload_n 0, 1) := by decide +kernel
theorem dX8_size_12 : decode cX8_size 12 = .ok (.lreturn, 1) := by decide +kernel
theorem dX8_fails_0 : decode cX8_fails 0 = .ok (.aload_n 0, 1) := by decide +kernel
theorem dX8_fails_1 : decode cX8_fails 1 = .ok (.iload_n 1, 1) := by decide +kernel
theorem dX8_fails_2 : decode cX8_fails 2 = .ok (.ifCond .eq 7, 3) := by decide +kernel
theorem dX8_fails_5 : decode cX8_fails 5 = .ok (.iconst 0, 1) := by decide +kernel
theorem dX8_fails_6 : decode cX8_fails 6 = .ok (.goto 4, 3) := by decide +kernel
theorem dX8_fails_9 : decode cX8_fails 9 = .ok (.iconst 1, 1) := by decide +kernel
theorem dX8_fails_10 : decode cX8_fails 10 = .ok (.putfield 68, 3) := by decide +kernel
theorem dX8_fails_13 : decode cX8_fails 13 = .ok (.iload_n 1, 1) := by decide +kernel
theorem dX8_fails_14 : decode cX8_fails 14 = .ok (.ifCond .ne 7, 3) := by decide +kernel
theorem dX8_fails_17 : decode cX8_fails 17 = .ok (.iconst 1, 1) := by decide +kernel
theorem dX8_fails_18 : decode cX8_fails 18 = .ok (.goto 4, 3) := by decide +kernel
theorem dX8_fails_21 : decode cX8_fails 21 = .ok (.iconst 0, 1) := by decide +kernel
theorem dX8_fails_22 : decode cX8_fails 22 = .ok (.ireturn, 1) := by decide +kernel
theorem dX8_leastOf_0 : decode cX8_leastOf 0 = .ok (.iload_n 0, 1) := by decide +kernel
theorem dX8_leastOf_1 : decode cX8_leastOf 1 = .ok (.iconst 1, 1) := by decide +kernel
theorem dX8_leastOf_2 : decode cX8_leastOf 2 = .ok (.if_icmp .ne 7, 3) := by decide +kernel
theorem dX8_leastOf_5 : decode cX8_leastOf 5 = .ok (.iconst 1, 1) := by decide +kernel
theorem dX8_leastOf_6 : decode cX8_leastOf 6 = .ok (.goto 4, 3) := by decide +kernel
theorem dX8_leastOf_9 : decode cX8_leastOf 9 = .ok (.iconst 0, 1) := by decide +kernel
theorem dX8_leastOf_10 : decode cX8_leastOf 10 = .ok (.ireturn, 1) := by decide +kernel
theorem dX8_mostOf_0 : decode cX8_mostOf 0 = .ok (.iload_n 0, 1) := by decide +kernel
theorem dX8_mostOf_1 : decode cX8_mostOf 1 = .ok (.ifCond .ne 9, 3) := by decide +kernel
theorem dX8_mostOf_4 : decode cX8_mostOf 4 = .ok (.sipush 500, 3) := by decide +kernel
theorem dX8_mostOf_7 : decode cX8_mostOf 7 = .ok (.goto 16, 3) := by decide +kernel
theorem dX8_mostOf_10 : decode cX8_mostOf 10 = .ok (.iload_n 0, 1) := by decide +kernel
theorem dX8_mostOf_11 : decode cX8_mostOf 11 = .ok (.iconst 1, 1) := by decide +kernel
theorem dX8_mostOf_12 : decode cX8_mostOf 12 = .ok (.if_icmp .ne 8, 3) := by decide +kernel
theorem dX8_mostOf_15 : decode cX8_mostOf 15 = .ok (.bipush 100, 2) := by decide +kernel
theorem dX8_mostOf_17 : decode cX8_mostOf 17 = .ok (.goto 6, 3) := by decide +kernel
theorem dX8_mostOf_20 : decode cX8_mostOf 20 = .ok (.sipush 800, 3) := by decide +kernel
theorem dX8_mostOf_23 : decode cX8_mostOf 23 = .ok (.ireturn, 1) := by decide +kernel
theorem dX8_setupAt_0 : decode cX8_setupAt 0 = .ok (.bipush 62, 2) := by decide +kernel
theorem dX8_setupAt_2 : decode cX8_setupAt 2 = .ok (.bipush 32, 2) := by decide +kernel
theorem dX8_setupAt_4 : decode cX8_setupAt 4 = .ok (.iload_n 0, 1) := by decide +kernel
theorem dX8_setupAt_5 : decode cX8_setupAt 5 = .ok (.imul, 1) := by decide +kernel
theorem dX8_setupAt_6 : decode cX8_setupAt 6 = .ok (.iadd, 1) := by decide +kernel
theorem dX8_setupAt_7 : decode cX8_setupAt 7 = .ok (.iconst 4, 1) := by decide +kernel
theorem dX8_setupAt_8 : decode cX8_setupAt 8 = .ok (.iload_n 1, 1) := by decide +kernel
theorem dX8_setupAt_9 : decode cX8_setupAt 9 = .ok (.imul, 1) := by decide +kernel
theorem dX8_setupAt_10 : decode cX8_setupAt 10 = .ok (.iadd, 1) := by decide +kernel
theorem dX8_setupAt_11 : decode cX8_setupAt 11 = .ok (.iload_n 2, 1) := by decide +kernel
theorem dX8_setupAt_12 : decode cX8_setupAt 12 = .ok (.iadd, 1) := by decide +kernel
theorem dX8_setupAt_13 : decode cX8_setupAt 13 = .ok (.ireturn, 1) := by decide +kernel
theorem dX8_remember_0 : decode cX8_remember 0 = .ok (.aload_n 0, 1) := by decide +kernel
theorem dX8_remember_1 : decode cX8_remember 1 = .ok (.getfield 71, 3) := by decide +kernel
theorem dX8_remember_4 : decode cX8_remember 4 = .ok (.bipush 8, 2) := by decide +kernel
theorem dX8_remember_6 : decode cX8_remember 6 = .ok (.if_icmp .ne 77, 3) := by decide +kernel
theorem dX8_remember_9 : decode cX8_remember 9 = .ok (.sipush 703, 3) := by decide +kernel
theorem dX8_remember_12 : decode cX8_remember 12 = .ok (.istore_n 1, 1) := by decide +kernel
theorem dX8_remember_13 : decode cX8_remember 13 = .ok (.iload_n 1, 1) := by decide +kernel
theorem dX8_remember_14 : decode cX8_remember 14 = .ok (.sipush 5624, 3) := by decide +kernel
theorem dX8_remember_17 : decode cX8_remember 17 = .ok (.if_icmp .ge 25, 3) := by decide +kernel
theorem dX8_remember_20 : decode cX8_remember 20 = .ok (.aload_n 0, 1) := by decide +kernel
theorem dX8_remember_21 : decode cX8_remember 21 = .ok (.getfield 16, 3) := by decide +kernel
theorem dX8_remember_24 : decode cX8_remember 24 = .ok (.iload_n 1, 1) := by decide +kernel
theorem dX8_remember_25 : decode cX8_remember 25 = .ok (.sipush 703, 3) := by decide +kernel
theorem dX8_remember_28 : decode cX8_remember 28 = .ok (.isub, 1) := by decide +kernel
theorem dX8_remember_29 : decode cX8_remember 29 = .ok (.aload_n 0, 1) := by decide +kernel
theorem dX8_remember_30 : decode cX8_remember 30 = .ok (.getfield 16, 3) := by decide +kernel
theorem dX8_remember_33 : decode cX8_remember 33 = .ok (.iload_n 1, 1) := by decide +kernel
theorem dX8_remember_34 : decode cX8_remember 34 = .ok (.iaload, 1) := by decide +kernel
theorem dX8_remember_35 : decode cX8_remember 35 = .ok (.iastore, 1) := by decide +kernel
theorem dX8_remember_36 : decode cX8_remember 36 = .ok (.iinc 1 1, 3) := by decide +kernel
theorem dX8_remember_39 : decode cX8_remember 39 = .ok (.goto (-26), 3) := by decide +kernel
theorem dX8_remember_42 : decode cX8_remember 42 = .ok (.bipush 16, 2) := by decide +kernel
theorem dX8_remember_44 : decode cX8_remember 44 = .ok (.istore_n 1, 1) := by decide +kernel
theorem dX8_remember_45 : decode cX8_remember 45 = .ok (.iload_n 1, 1) := by decide +kernel
theorem dX8_remember_46 : decode cX8_remember 46 = .ok (.sipush 128, 3) := by decide +kernel
theorem dX8_remember_49 : decode cX8_remember 49 = .ok (.if_icmp .ge 24, 3) := by decide +kernel
theorem dX8_remember_52 : decode cX8_remember 52 = .ok (.aload_n 0, 1) := by decide +kernel
theorem dX8_remember_53 : decode cX8_remember 53 = .ok (.getfield 23, 3) := by decide +kernel
theorem dX8_remember_56 : decode cX8_remember 56 = .ok (.iload_n 1, 1) := by decide +kernel
theorem dX8_remember_57 : decode cX8_remember 57 = .ok (.bipush 16, 2) := by decide +kernel
theorem dX8_remember_59 : decode cX8_remember 59 = .ok (.isub, 1) := by decide +kernel
theorem dX8_remember_60 : decode cX8_remember 60 = .ok (.aload_n 0, 1) := by decide +kernel
theorem dX8_remember_61 : decode cX8_remember 61 = .ok (.getfield 23, 3) := by decide +kernel
theorem dX8_remember_64 : decode cX8_remember 64 = .ok (.iload_n 1, 1) := by decide +kernel
theorem dX8_remember_65 : decode cX8_remember 65 = .ok (.laload, 1) := by decide +kernel
theorem dX8_remember_66 : decode cX8_remember 66 = .ok (.lastore, 1) := by decide +kernel
theorem dX8_remember_67 : decode cX8_remember 67 = .ok (.iinc 1 1, 3) := by decide +kernel
theorem dX8_remember_70 : decode cX8_remember 70 = .ok (.goto (-25), 3) := by decide +kernel
theorem dX8_remember_73 : decode cX8_remember 73 = .ok (.aload_n 0, 1) := by decide +kernel
theorem dX8_remember_74 : decode cX8_remember 74 = .ok (.dup, 1) := by decide +kernel
theorem dX8_remember_75 : decode cX8_remember 75 = .ok (.getfield 71, 3) := by decide +kernel
theorem dX8_remember_78 : decode cX8_remember 78 = .ok (.iconst 1, 1) := by decide +kernel
theorem dX8_remember_79 : decode cX8_remember 79 = .ok (.isub, 1) := by decide +kernel
theorem dX8_remember_80 : decode cX8_remember 80 = .ok (.putfield 71, 3) := by decide +kernel
theorem dX8_remember_83 : decode cX8_remember 83 = .ok (.iconst 0, 1) := by decide +kernel
theorem dX8_remember_84 : decode cX8_remember 84 = .ok (.istore_n 1, 1) := by decide +kernel
theorem dX8_remember_85 : decode cX8_remember 85 = .ok (.iload_n 1, 1) := by decide +kernel
theorem dX8_remember_86 : decode cX8_remember 86 = .ok (.sipush 703, 3) := by decide +kernel
theorem dX8_remember_89 : decode cX8_remember 89 = .ok (.if_icmp .ge 30, 3) := by decide +kernel
theorem dX8_remember_92 : decode cX8_remember 92 = .ok (.aload_n 0, 1) := by decide +kernel
theorem dX8_remember_93 : decode cX8_remember 93 = .ok (.getfield 16, 3) := by decide +kernel
theorem dX8_remember_96 : decode cX8_remember 96 = .ok (.aload_n 0, 1) := by decide +kernel
theorem dX8_remember_97 : decode cX8_remember 97 = .ok (.getfield 71, 3) := by decide +kernel
theorem dX8_remember_100 : decode cX8_remember 100 = .ok (.sipush 703, 3) := by decide +kernel
theorem dX8_remember_103 : decode cX8_remember 103 = .ok (.imul, 1) := by decide +kernel
theorem dX8_remember_104 : decode cX8_remember 104 = .ok (.iload_n 1, 1) := by decide +kernel
theorem dX8_remember_105 : decode cX8_remember 105 = .ok (.iadd, 1) := by decide +kernel
theorem dX8_remember_106 : decode cX8_remember 106 = .ok (.aload_n 0, 1) := by decide +kernel
theorem dX8_remember_107 : decode cX8_remember 107 = .ok (.getfield 7, 3) := by decide +kernel
theorem dX8_remember_110 : decode cX8_remember 110 = .ok (.iload_n 1, 1) := by decide +kernel
theorem dX8_remember_111 : decode cX8_remember 111 = .ok (.iaload, 1) := by decide +kernel
theorem dX8_remember_112 : decode cX8_remember 112 = .ok (.iastore, 1) := by decide +kernel
theorem dX8_remember_113 : decode cX8_remember 113 = .ok (.iinc 1 1, 3) := by decide +kernel
theorem dX8_remember_116 : decode cX8_remember 116 = .ok (.goto (-31), 3) := by decide +kernel
theorem dX8_remember_119 : decode cX8_remember 119 = .ok (.iconst 0, 1) := by decide +kernel
theorem dX8_remember_120 : decode cX8_remember 120 = .ok (.istore_n 1, 1) := by decide +kernel
theorem dX8_remember_121 : decode cX8_remember 121 = .ok (.iload_n 1, 1) := by decide +kernel
theorem dX8_remember_122 : decode cX8_remember 122 = .ok (.bipush 16, 2) := by decide +kernel
theorem dX8_remember_124 : decode cX8_remember 124 = .ok (.if_icmp .ge 29, 3) := by decide +kernel
theorem dX8_remember_127 : decode cX8_remember 127 = .ok (.aload_n 0, 1) := by decide +kernel
theorem dX8_remember_128 : decode cX8_remember 128 = .ok (.getfield 23, 3) := by decide +kernel
theorem dX8_remember_131 : decode cX8_remember 131 = .ok (.aload_n 0, 1) := by decide +kernel
theorem dX8_remember_132 : decode cX8_remember 132 = .ok (.getfield 71, 3) := by decide +kernel
theorem dX8_remember_135 : decode cX8_remember 135 = .ok (.bipush 16, 2) := by decide +kernel
theorem dX8_remember_137 : decode cX8_remember 137 = .ok (.imul, 1) := by decide +kernel
theorem dX8_remember_138 : decode cX8_remember 138 = .ok (.iload_n 1, 1) := by decide +kernel
theorem dX8_remember_139 : decode cX8_remember 139 = .ok (.iadd, 1) := by decide +kernel
theorem dX8_remember_140 : decode cX8_remember 140 = .ok (.aload_n 0, 1) := by decide +kernel
theorem dX8_remember_141 : decode cX8_remember 141 = .ok (.getfield 19, 3) := by decide +kernel
theorem dX8_remember_144 : decode cX8_remember 144 = .ok (.iload_n 1, 1) := by decide +kernel
theorem dX8_remember_145 : decode cX8_remember 145 = .ok (.laload, 1) := by decide +kernel
theorem dX8_remember_146 : decode cX8_remember 146 = .ok (.lastore, 1) := by decide +kernel
theorem dX8_remember_147 : decode cX8_remember 147 = .ok (.iinc 1 1, 3) := by decide +kernel
theorem dX8_remember_150 : decode cX8_remember 150 = .ok (.goto (-29), 3) := by decide +kernel
theorem dX8_remember_153 : decode cX8_remember 153 = .ok (.aload_n 0, 1) := by decide +kernel
theorem dX8_remember_154 : decode cX8_remember 154 = .ok (.dup, 1) := by decide +kernel
theorem dX8_remember_155 : decode cX8_remember 155 = .ok (.getfield 71, 3) := by decide +kernel
theorem dX8_remember_158 : decode cX8_remember 158 = .ok (.iconst 1, 1) := by decide +kernel
theorem dX8_remember_159 : decode cX8_remember 159 = .ok (.iadd, 1) := by decide +kernel
theorem dX8_remember_160 : decode cX8_remember 160 = .ok (.putfield 71, 3) := by decide +kernel
theorem dX8_remember_163 : decode cX8_remember 163 = .ok (.return_, 1) := by decide +kernel
theorem dX8_changes_0 : decode cX8_changes 0 = .ok (.aload_n 0, 1) := by decide +kernel
theorem dX8_changes_1 : decode cX8_changes 1 = .ok (.invokevirtual 74, 3) := by decide +kernel
theorem dX8_changes_4 : decode cX8_changes 4 = .ok (.aload_n 0, 1) := by decide +kernel
theorem dX8_changes_5 : decode cX8_changes 5 = .ok (.getfield 7, 3) := by decide +kernel
theorem dX8_changes_8 : decode cX8_changes 8 = .ok (.sipush 702, 3) := by decide +kernel
theorem dX8_changes_11 : decode cX8_changes 11 = .ok (.iconst 0, 1) := by decide +kernel
theorem dX8_changes_12 : decode cX8_changes 12 = .ok (.iastore, 1) := by decide +kernel
theorem dX8_changes_13 : decode cX8_changes 13 = .ok (.return_, 1) := by decide +kernel
theorem dX8_undo_0 : decode cX8_undo 0 = .ok (.aload_n 0, 1) := by decide +kernel
theorem dX8_undo_1 : decode cX8_undo 1 = .ok (.iconst 0, 1) := by decide +kernel
theorem dX8_undo_2 : decode cX8_undo 2 = .ok (.putfield 68, 3) := by decide +kernel
theorem dX8_undo_5 : decode cX8_undo 5 = .ok (.aload_n 0, 1) := by decide +kernel
theorem dX8_undo_6 : decode cX8_undo 6 = .ok (.getfield 71, 3) := by decide +kernel
theorem dX8_undo_9 : decode cX8_undo 9 = .ok (.ifCond .ne 5, 3) := by decide +kernel
theorem dX8_undo_12 : decode cX8_undo 12 = .ok (.iconst (-1), 1) := by decide +kernel
theorem dX8_undo_13 : decode cX8_undo 13 = .ok (.ireturn, 1) := by decide +kernel
theorem dX8_undo_14 : decode cX8_undo 14 = .ok (.aload_n 0, 1) := by decide +kernel
theorem dX8_undo_15 : decode cX8_undo 15 = .ok (.dup, 1) := by decide +kernel
theorem dX8_undo_16 : decode cX8_undo 16 = .ok (.getfield 71, 3) := by decide +kernel
theorem dX8_undo_19 : decode cX8_undo 19 = .ok (.iconst 1, 1) := by decide +kernel
theorem dX8_undo_20 : decode cX8_undo 20 = .ok (.isub, 1) := by decide +kernel
theorem dX8_undo_21 : decode cX8_undo 21 = .ok (.putfield 71, 3) := by decide +kernel
theorem dX8_undo_24 : decode cX8_undo 24 = .ok (.iconst 0, 1) := by decide +kernel
theorem dX8_undo_25 : decode cX8_undo 25 = .ok (.istore_n 1, 1) := by decide +kernel
theorem dX8_undo_26 : decode cX8_undo 26 = .ok (.iload_n 1, 1) := by decide +kernel
theorem dX8_undo_27 : decode cX8_undo 27 = .ok (.sipush 703, 3) := by decide +kernel
theorem dX8_undo_30 : decode cX8_undo 30 = .ok (.if_icmp .ge 30, 3) := by decide +kernel
theorem dX8_undo_33 : decode cX8_undo 33 = .ok (.aload_n 0, 1) := by decide +kernel
theorem dX8_undo_34 : decode cX8_undo 34 = .ok (.getfield 7, 3) := by decide +kernel
theorem dX8_undo_37 : decode cX8_undo 37 = .ok (.iload_n 1, 1) := by decide +kernel
theorem dX8_undo_38 : decode cX8_undo 38 = .ok (.aload_n 0, 1) := by decide +kernel
theorem dX8_undo_39 : decode cX8_undo 39 = .ok (.getfield 16, 3) := by decide +kernel
theorem dX8_undo_42 : decode cX8_undo 42 = .ok (.aload_n 0, 1) := by decide +kernel
theorem dX8_undo_43 : decode cX8_undo 43 = .ok (.getfield 71, 3) := by decide +kernel
theorem dX8_undo_46 : decode cX8_undo 46 = .ok (.sipush 703, 3) := by decide +kernel
theorem dX8_undo_49 : decode cX8_undo 49 = .ok (.imul, 1) := by decide +kernel
theorem dX8_undo_50 : decode cX8_undo 50 = .ok (.iload_n 1, 1) := by decide +kernel
theorem dX8_undo_51 : decode cX8_undo 51 = .ok (.iadd, 1) := by decide +kernel
theorem dX8_undo_52 : decode cX8_undo 52 = .ok (.iaload, 1) := by decide +kernel
theorem dX8_undo_53 : decode cX8_undo 53 = .ok (.iastore, 1) := by decide +kernel
theorem dX8_undo_54 : decode cX8_undo 54 = .ok (.iinc 1 1, 3) := by decide +kernel
theorem dX8_undo_57 : decode cX8_undo 57 = .ok (.goto (-31), 3) := by decide +kernel
theorem dX8_undo_60 : decode cX8_undo 60 = .ok (.iconst 0, 1) := by decide +kernel
theorem dX8_undo_61 : decode cX8_undo 61 = .ok (.istore_n 1, 1) := by decide +kernel
theorem dX8_undo_62 : decode cX8_undo 62 = .ok (.iload_n 1, 1) := by decide +kernel
theorem dX8_undo_63 : decode cX8_undo 63 = .ok (.bipush 16, 2) := by decide +kernel
theorem dX8_undo_65 : decode cX8_undo 65 = .ok (.if_icmp .ge 29, 3) := by decide +kernel
theorem dX8_undo_68 : decode cX8_undo 68 = .ok (.aload_n 0, 1) := by decide +kernel
theorem dX8_undo_69 : decode cX8_undo 69 = .ok (.getfield 19, 3) := by decide +kernel
theorem dX8_undo_72 : decode cX8_undo 72 = .ok (.iload_n 1, 1) := by decide +kernel
theorem dX8_undo_73 : decode cX8_undo 73 = .ok (.aload_n 0, 1) := by decide +kernel
theorem dX8_undo_74 : decode cX8_undo 74 = .ok (.getfield 23, 3) := by decide +kernel
theorem dX8_undo_77 : decode cX8_undo 77 = .ok (.aload_n 0, 1) := by decide +kernel
theorem dX8_undo_78 : decode cX8_undo 78 = .ok (.getfield 71, 3) := by decide +kernel
theorem dX8_undo_81 : decode cX8_undo 81 = .ok (.bipush 16, 2) := by decide +kernel
theorem dX8_undo_83 : decode cX8_undo 83 = .ok (.imul, 1) := by decide +kernel
theorem dX8_undo_84 : decode cX8_undo 84 = .ok (.iload_n 1, 1) := by decide +kernel
theorem dX8_undo_85 : decode cX8_undo 85 = .ok (.iadd, 1) := by decide +kernel
theorem dX8_undo_86 : decode cX8_undo 86 = .ok (.laload, 1) := by decide +kernel
theorem dX8_undo_87 : decode cX8_undo 87 = .ok (.lastore, 1) := by decide +kernel
theorem dX8_undo_88 : decode cX8_undo 88 = .ok (.iinc 1 1, 3) := by decide +kernel
theorem dX8_undo_91 : decode cX8_undo 91 = .ok (.goto (-29), 3) := by decide +kernel
theorem dX8_undo_94 : decode cX8_undo 94 = .ok (.aload_n 0, 1) := by decide +kernel
theorem dX8_undo_95 : decode cX8_undo 95 = .ok (.getfield 71, 3) := by decide +kernel
theorem dX8_undo_98 : decode cX8_undo 98 = .ok (.ireturn, 1) := by decide +kernel
theorem dX8_undoCount_0 : decode cX8_undoCount 0 = .ok (.aload_n 0, 1) := by decide +kernel
theorem dX8_undoCount_1 : decode cX8_undoCount 1 = .ok (.iconst 0, 1) := by decide +kernel
theorem dX8_undoCount_2 : decode cX8_undoCount 2 = .ok (.putfield 68, 3) := by decide +kernel
theorem dX8_undoCount_5 : decode cX8_undoCount 5 = .ok (.aload_n 0, 1) := by decide +kernel
theorem dX8_undoCount_6 : decode cX8_undoCount 6 = .ok (.getfield 71, 3) := by decide +kernel
theorem dX8_undoCount_9 : decode cX8_undoCount 9 = .ok (.ireturn, 1) := by decide +kernel
theorem dX8_append_0 : decode cX8_append 0 = .ok (.bipush 24, 2) := by decide +kernel
theorem dX8_append_2 : decode cX8_append 2 = .ok (.istore_n 2, 1) := by decide +kernel
theorem dX8_append_3 : decode cX8_append 3 = .ok (.iload_n 2, 1) := by decide +kernel
theorem dX8_append_4 : decode cX8_append 4 = .ok (.ifCond .lt 32, 3) := by decide +kernel
theorem dX8_append_7 : decode cX8_append 7 = .ok (.aload_n 0, 1) := by decide +kernel
theorem dX8_append_8 : decode cX8_append 8 = .ok (.getfield 32, 3) := by decide +kernel
theorem dX8_append_11 : decode cX8_append 11 = .ok (.aload_n 0, 1) := by decide +kernel
theorem dX8_append_12 : decode cX8_append 12 = .ok (.getfield 77, 3) := by decide +kernel
theorem dX8_append_15 : decode cX8_append 15 = .ok (.iload_n 1, 1) := by decide +kernel
theorem dX8_append_16 : decode cX8_append 16 = .ok (.iload_n 2, 1) := by decide +kernel
theorem dX8_append_17 : decode cX8_append 17 = .ok (.ishr, 1) := by decide +kernel
theorem dX8_append_18 : decode cX8_append 18 = .ok (.i2b, 1) := by decide +kernel
theorem dX8_append_19 : decode cX8_append 19 = .ok (.bastore, 1) := by decide +kernel
theorem dX8_append_20 : decode cX8_append 20 = .ok (.aload_n 0, 1) := by decide +kernel
theorem dX8_append_21 : decode cX8_append 21 = .ok (.dup, 1) := by decide +kernel
theorem dX8_append_22 : decode cX8_append 22 = .ok (.getfield 77, 3) := by decide +kernel
theorem dX8_append_25 : decode cX8_append 25 = .ok (.iconst 1, 1) := by decide +kernel
theorem dX8_append_26 : decode cX8_append 26 = .ok (.iadd, 1) := by decide +kernel
theorem dX8_append_27 : decode cX8_append 27 = .ok (.putfield 77, 3) := by decide +kernel
theorem dX8_append_30 : decode cX8_append 30 = .ok (.iinc 2 (-8), 3) := by decide +kernel
theorem dX8_append_33 : decode cX8_append 33 = .ok (.goto (-30), 3) := by decide +kernel
theorem dX8_append_36 : decode cX8_append 36 = .ok (.return_, 1) := by decide +kernel
theorem dX8_feed_0 : decode cX8_feed 0 = .ok (.aload_n 0, 1) := by decide +kernel
theorem dX8_feed_1 : decode cX8_feed 1 = .ok (.iconst 0, 1) := by decide +kernel
theorem dX8_feed_2 : decode cX8_feed 2 = .ok (.putfield 68, 3) := by decide +kernel
theorem dX8_feed_5 : decode cX8_feed 5 = .ok (.aload_n 0, 1) := by decide +kernel
theorem dX8_feed_6 : decode cX8_feed 6 = .ok (.getfield 77, 3) := by decide +kernel
theorem dX8_feed_9 : decode cX8_feed 9 = .ok (.bipush 20, 2) := by decide +kernel
theorem dX8_feed_11 : decode cX8_feed 11 = .ok (.iadd, 1) := by decide +kernel
theorem dX8_feed_12 : decode cX8_feed 12 = .ok (.sipush 1200, 3) := by decide +kernel
theorem dX8_feed_15 : decode cX8_feed 15 = .ok (.if_icmp .le 6, 3) := by decide +kernel
theorem dX8_feed_18 : decode cX8_feed 18 = .ok (.bipush (-3), 2) := by decide +kernel
theorem dX8_feed_20 : decode cX8_feed 20 = .ok (.ireturn, 1) := by decide +kernel
theorem dX8_feed_21 : decode cX8_feed 21 = .ok (.aload_n 0, 1) := by decide +kernel
theorem dX8_feed_22 : decode cX8_feed 22 = .ok (.iload_n 1, 1) := by decide +kernel
theorem dX8_feed_23 : decode cX8_feed 23 = .ok (.invokevirtual 80, 3) := by decide +kernel
theorem dX8_feed_26 : decode cX8_feed 26 = .ok (.aload_n 0, 1) := by decide +kernel
theorem dX8_feed_27 : decode cX8_feed 27 = .ok (.iload_n 2, 1) := by decide +kernel
theorem dX8_feed_28 : decode cX8_feed 28 = .ok (.invokevirtual 80, 3) := by decide +kernel
theorem dX8_feed_31 : decode cX8_feed 31 = .ok (.aload_n 0, 1) := by decide +kernel
theorem dX8_feed_32 : decode cX8_feed 32 = .ok (.iload_n 3, 1) := by decide +kernel
theorem dX8_feed_33 : decode cX8_feed 33 = .ok (.invokevirtual 80, 3) := by decide +kernel
theorem dX8_feed_36 : decode cX8_feed 36 = .ok (.aload_n 0, 1) := by decide +kernel
theorem dX8_feed_37 : decode cX8_feed 37 = .ok (.iload 4, 2) := by decide +kernel
theorem dX8_feed_39 : decode cX8_feed 39 = .ok (.invokevirtual 80, 3) := by decide +kernel
theorem dX8_feed_42 : decode cX8_feed 42 = .ok (.aload_n 0, 1) := by decide +kernel
theorem dX8_feed_43 : decode cX8_feed 43 = .ok (.iload 5, 2) := by decide +kernel
theorem dX8_feed_45 : decode cX8_feed 45 = .ok (.invokevirtual 80, 3) := by decide +kernel
theorem dX8_feed_48 : decode cX8_feed 48 = .ok (.aload_n 0, 1) := by decide +kernel
theorem dX8_feed_49 : decode cX8_feed 49 = .ok (.getfield 77, 3) := by decide +kernel
theorem dX8_feed_52 : decode cX8_feed 52 = .ok (.ireturn, 1) := by decide +kernel
theorem dX8_errorPosition_0 : decode cX8_errorPosition 0 = .ok (.aload_n 0, 1) := by decide +kernel
theorem dX8_errorPosition_1 : decode cX8_errorPosition 1 = .ok (.iconst 0, 1) := by decide +kernel
theorem dX8_errorPosition_2 : decode cX8_errorPosition 2 = .ok (.putfield 68, 3) := by decide +kernel
theorem dX8_errorPosition_5 : decode cX8_errorPosition 5 = .ok (.aload_n 0, 1) := by decide +kernel
theorem dX8_errorPosition_6 : decode cX8_errorPosition 6 = .ok (.getfield 36, 3) := by decide +kernel
theorem dX8_errorPosition_9 : decode cX8_errorPosition 9 = .ok (.ireturn, 1) := by decide +kernel
theorem dX8_peek_0 : decode cX8_peek 0 = .ok (.aload_n 0, 1) := by decide +kernel
theorem dX8_peek_1 : decode cX8_peek 1 = .ok (.getfield 84, 3) := by decide +kernel
theorem dX8_peek_4 : decode cX8_peek 4 = .ok (.aload_n 0, 1) := by decide +kernel
theorem dX8_peek_5 : decode cX8_peek 5 = .ok (.getfield 87, 3) := by decide +kernel
theorem dX8_peek_8 : decode cX8_peek 8 = .ok (.if_icmp .ge 19, 3) := by decide +kernel
theorem dX8_peek_11 : decode cX8_peek 11 = .ok (.aload_n 0, 1) := by decide +kernel
theorem dX8_peek_12 : decode cX8_peek 12 = .ok (.getfield 32, 3) := by decide +kernel
theorem dX8_peek_15 : decode cX8_peek 15 = .ok (.aload_n 0, 1) := by decide +kernel
theorem dX8_peek_16 : decode cX8_peek 16 = .ok (.getfield 84, 3) := by decide +kernel
theorem dX8_peek_19 : decode cX8_peek 19 = .ok (.baload, 1) := by decide +kernel
theorem dX8_peek_20 : decode cX8_peek 20 = .ok (.sipush 255, 3) := by decide +kernel
theorem dX8_peek_23 : decode cX8_peek 23 = .ok (.iand, 1) := by decide +kernel
theorem dX8_peek_24 : decode cX8_peek 24 = .ok (.goto 4, 3) := by decide +kernel
theorem dX8_peek_27 : decode cX8_peek 27 = .ok (.iconst (-1), 1) := by decide +kernel
theorem dX8_peek_28 : decode cX8_peek 28 = .ok (.ireturn, 1) := by decide +kernel
theorem dX8_advance_0 : decode cX8_advance 0 = .ok (.aload_n 0, 1) := by decide +kernel
theorem dX8_advance_1 : decode cX8_advance 1 = .ok (.invokevirtual 90, 3) := by decide +kernel
theorem dX8_advance_4 : decode cX8_advance 4 = .ok (.bipush 32, 2) := by decide +kernel
theorem dX8_advance_6 : decode cX8_advance 6 = .ok (.if_icmp .eq 12, 3) := by decide +kernel
theorem dX8_advance_9 : decode cX8_advance 9 = .ok (.aload_n 0, 1) := by decide +kernel
theorem dX8_advance_10 : decode cX8_advance 10 = .ok (.invokevirtual 90, 3) := by decide +kernel
theorem dX8_advance_13 : decode cX8_advance 13 = .ok (.bipush 10, 2) := by decide +kernel
theorem dX8_advance_15 : decode cX8_advance 15 = .ok (.if_icmp .ne 16, 3) := by decide +kernel
theorem dX8_advance_18 : decode cX8_advance 18 = .ok (.aload_n 0, 1) := by decide +kernel
theorem dX8_advance_19 : decode cX8_advance 19 = .ok (.dup, 1) := by decide +kernel
theorem dX8_advance_20 : decode cX8_advance 20 = .ok (.getfield 84, 3) := by decide +kernel
theorem dX8_advance_23 : decode cX8_advance 23 = .ok (.iconst 1, 1) := by decide +kernel
theorem dX8_advance_24 : decode cX8_advance 24 = .ok (.iadd, 1) := by decide +kernel
theorem dX8_advance_25 : decode cX8_advance 25 = .ok (.putfield 84, 3) := by decide +kernel
theorem dX8_advance_28 : decode cX8_advance 28 = .ok (.goto (-28), 3) := by decide +kernel
theorem dX8_advance_31 : decode cX8_advance 31 = .ok (.aload_n 0, 1) := by decide +kernel
theorem dX8_advance_32 : decode cX8_advance 32 = .ok (.aload_n 0, 1) := by decide +kernel
theorem dX8_advance_33 : decode cX8_advance 33 = .ok (.getfield 84, 3) := by decide +kernel
theorem dX8_advance_36 : decode cX8_advance 36 = .ok (.putfield 94, 3) := by decide +kernel
theorem dX8_advance_39 : decode cX8_advance 39 = .ok (.aload_n 0, 1) := by decide +kernel
theorem dX8_advance_40 : decode cX8_advance 40 = .ok (.lconst 0, 1) := by decide +kernel
theorem dX8_advance_41 : decode cX8_advance 41 = .ok (.putfield 97, 3) := by decide +kernel
theorem dX8_advance_44 : decode cX8_advance 44 = .ok (.aload_n 0, 1) := by decide +kernel
theorem dX8_advance_45 : decode cX8_advance 45 = .ok (.iconst 0, 1) := by decide +kernel
theorem dX8_advance_46 : decode cX8_advance 46 = .ok (.putfield 101, 3) := by decide +kernel
theorem dX8_advance_49 : decode cX8_advance 49 = .ok (.aload_n 0, 1) := by decide +kernel
theorem dX8_advance_50 : decode cX8_advance 50 = .ok (.invokevirtual 90, 3) := by decide +kernel
theorem dX8_advance_53 : decode cX8_advance 53 = .ok (.istore_n 1, 1) := by decide +kernel
theorem dX8_advance_54 : decode cX8_advance 54 = .ok (.iload_n 1, 1) := by decide +kernel
theorem dX8_advance_55 : decode cX8_advance 55 = .ok (.ifCond .ge 11, 3) := by decide +kernel
theorem dX8_advance_58 : decode cX8_advance 58 = .ok (.aload_n 0, 1) := by decide +kernel
theorem dX8_advance_59 : decode cX8_advance 59 = .ok (.iconst 0, 1) := by decide +kernel
theorem dX8_advance_60 : decode cX8_advance 60 = .ok (.putfield 104, 3) := by decide +kernel
theorem dX8_advance_63 : decode cX8_advance 63 = .ok (.goto 206, 3) := by decide +kernel
theorem dX8_advance_66 : decode cX8_advance 66 = .ok (.iload_n 1, 1) := by decide +kernel
theorem dX8_advance_67 : decode cX8_advance 67 = .ok (.bipush 97, 2) := by decide +kernel
theorem dX8_advance_69 : decode cX8_advance 69 = .ok (.bipush 122, 2) := by decide +kernel
theorem dX8_advance_71 : decode cX8_advance 71 = .ok (.invokestatic 107, 3) := by decide +kernel
theorem dX8_advance_74 : decode cX8_advance 74 = .ok (.ifCond .eq 94, 3) := by decide +kernel
theorem dX8_advance_77 : decode cX8_advance 77 = .ok (.aload_n 0, 1) := by decide +kernel
theorem dX8_advance_78 : decode cX8_advance 78 = .ok (.iconst 1, 1) := by decide +kernel
theorem dX8_advance_79 : decode cX8_advance 79 = .ok (.putfield 104, 3) := by decide +kernel
theorem dX8_advance_82 : decode cX8_advance 82 = .ok (.aload_n 0, 1) := by decide +kernel
theorem dX8_advance_83 : decode cX8_advance 83 = .ok (.invokevirtual 90, 3) := by decide +kernel
theorem dX8_advance_86 : decode cX8_advance 86 = .ok (.bipush 97, 2) := by decide +kernel
theorem dX8_advance_88 : decode cX8_advance 88 = .ok (.bipush 122, 2) := by decide +kernel
theorem dX8_advance_90 : decode cX8_advance 90 = .ok (.invokestatic 107, 3) := by decide +kernel
theorem dX8_advance_93 : decode cX8_advance 93 = .ok (.ifCond .eq 53, 3) := by decide +kernel
theorem dX8_advance_96 : decode cX8_advance 96 = .ok (.aload_n 0, 1) := by decide +kernel
theorem dX8_advance_97 : decode cX8_advance 97 = .ok (.aload_n 0, 1) := by decide +kernel
theorem dX8_advance_98 : decode cX8_advance 98 = .ok (.getfield 84, 3) := by decide +kernel
theorem dX8_advance_101 : decode cX8_advance 101 = .ok (.aload_n 0, 1) := by decide +kernel
theorem dX8_advance_102 : decode cX8_advance 102 = .ok (.getfield 94, 3) := by decide +kernel
theorem dX8_advance_105 : decode cX8_advance 105 = .ok (.isub, 1) := by decide +kernel
theorem dX8_advance_106 : decode cX8_advance 106 = .ok (.bipush 12, 2) := by decide +kernel
theorem dX8_advance_108 : decode cX8_advance 108 = .ok (.if_icmp .ge 21, 3) := by decide +kernel
theorem dX8_advance_111 : decode cX8_advance 111 = .ok (.aload_n 0, 1) := by decide +kernel
theorem dX8_advance_112 : decode cX8_advance 112 = .ok (.getfield 97, 3) := by decide +kernel
theorem dX8_advance_115 : decode cX8_advance 115 = .ok (.iconst 5, 1) := by decide +kernel
theorem dX8_advance_116 : decode cX8_advance 116 = .ok (.lshl, 1) := by decide +kernel
theorem dX8_advance_117 : decode cX8_advance 117 = .ok (.aload_n 0, 1) := by decide +kernel
theorem dX8_advance_118 : decode cX8_advance 118 = .ok (.invokevirtual 90, 3) := by decide +kernel
theorem dX8_advance_121 : decode cX8_advance 121 = .ok (.bipush 96, 2) := by decide +kernel
theorem dX8_advance_123 : decode cX8_advance 123 = .ok (.isub, 1) := by decide +kernel
theorem dX8_advance_124 : decode cX8_advance 124 = .ok (.i2l, 1) := by decide +kernel
theorem dX8_advance_125 : decode cX8_advance 125 = .ok (.lor, 1) := by decide +kernel
theorem dX8_advance_126 : decode cX8_advance 126 = .ok (.goto 4, 3) := by decide +kernel
theorem dX8_advance_129 : decode cX8_advance 129 = .ok (.lconst 0, 1) := by decide +kernel
theorem dX8_advance_130 : decode cX8_advance 130 = .ok (.putfield 97, 3) := by decide +kernel
theorem dX8_advance_133 : decode cX8_advance 133 = .ok (.aload_n 0, 1) := by decide +kernel
theorem dX8_advance_134 : decode cX8_advance 134 = .ok (.dup, 1) := by decide +kernel
theorem dX8_advance_135 : decode cX8_advance 135 = .ok (.getfield 84, 3) := by decide +kernel
theorem dX8_advance_138 : decode cX8_advance 138 = .ok (.iconst 1, 1) := by decide +kernel
theorem dX8_advance_139 : decode cX8_advance 139 = .ok (.iadd, 1) := by decide +kernel
theorem dX8_advance_140 : decode cX8_advance 140 = .ok (.putfield 84, 3) := by decide +kernel
theorem dX8_advance_143 : decode cX8_advance 143 = .ok (.goto (-61), 3) := by decide +kernel
theorem dX8_advance_146 : decode cX8_advance 146 = .ok (.aload_n 0, 1) := by decide +kernel
theorem dX8_advance_147 : decode cX8_advance 147 = .ok (.getfield 84, 3) := by decide +kernel
theorem dX8_advance_150 : decode cX8_advance 150 = .ok (.aload_n 0, 1) := by decide +kernel
theorem dX8_advance_151 : decode cX8_advance 151 = .ok (.getfield 94, 3) := by decide +kernel
theorem dX8_advance_154 : decode cX8_advance 154 = .ok (.isub, 1) := by decide +kernel
theorem dX8_advance_155 : decode cX8_advance 155 = .ok (.bipush 12, 2) := by decide +kernel
theorem dX8_advance_157 : decode cX8_advance 157 = .ok (.if_icmp .le 112, 3) := by decide +kernel
theorem dX8_advance_160 : decode cX8_advance 160 = .ok (.aload_n 0, 1) := by decide +kernel
theorem dX8_advance_161 : decode cX8_advance 161 = .ok (.lconst 0, 1) := by decide +kernel
theorem dX8_advance_162 : decode cX8_advance 162 = .ok (.putfield 97, 3) := by decide +kernel
theorem dX8_advance_165 : decode cX8_advance 165 = .ok (.goto 104, 3) := by decide +kernel
theorem dX8_advance_168 : decode cX8_advance 168 = .ok (.iload_n 1, 1) := by decide +kernel
theorem dX8_advance_169 : decode cX8_advance 169 = .ok (.bipush 48, 2) := by decide +kernel
theorem dX8_advance_171 : decode cX8_advance 171 = .ok (.bipush 57, 2) := by decide +kernel
theorem dX8_advance_173 : decode cX8_advance 173 = .ok (.invokestatic 107, 3) := by decide +kernel
theorem dX8_advance_176 : decode cX8_advance 176 = .ok (.ifCond .eq 68, 3) := by decide +kernel
theorem dX8_advance_179 : decode cX8_advance 179 = .ok (.aload_n 0, 1) := by decide +kernel
theorem dX8_advance_180 : decode cX8_advance 180 = .ok (.iconst 2, 1) := by decide +kernel
theorem dX8_advance_181 : decode cX8_advance 181 = .ok (.putfield 104, 3) := by decide +kernel
theorem dX8_advance_184 : decode cX8_advance 184 = .ok (.aload_n 0, 1) := by decide +kernel
theorem dX8_advance_185 : decode cX8_advance 185 = .ok (.invokevirtual 90, 3) := by decide +kernel
theorem dX8_advance_188 : decode cX8_advance 188 = .ok (.bipush 48, 2) := by decide +kernel
theorem dX8_advance_190 : decode cX8_advance 190 = .ok (.bipush 57, 2) := by decide +kernel
theorem dX8_advance_192 : decode cX8_advance 192 = .ok (.invokestatic 107, 3) := by decide +kernel
theorem dX8_advance_195 : decode cX8_advance 195 = .ok (.ifCond .eq 74, 3) := by decide +kernel
theorem dX8_advance_198 : decode cX8_advance 198 = .ok (.aload_n 0, 1) := by decide +kernel
theorem dX8_advance_199 : decode cX8_advance 199 = .ok (.aload_n 0, 1) := by decide +kernel
theorem dX8_advance_200 : decode cX8_advance 200 = .ok (.getfield 101, 3) := by decide +kernel
theorem dX8_advance_203 : decode cX8_advance 203 = .ok (.ldc 111, 2) := by decide +kernel
theorem dX8_advance_205 : decode cX8_advance 205 = .ok (.if_icmp .le 8, 3) := by decide +kernel
theorem dX8_advance_208 : decode cX8_advance 208 = .ok (.ldc 112, 2) := by decide +kernel
theorem dX8_advance_210 : decode cX8_advance 210 = .ok (.goto 18, 3) := by decide +kernel
theorem dX8_advance_213 : decode cX8_advance 213 = .ok (.bipush 10, 2) := by decide +kernel
theorem dX8_advance_215 : decode cX8_advance 215 = .ok (.aload_n 0, 1) := by decide +kernel
theorem dX8_advance_216 : decode cX8_advance 216 = .ok (.getfield 101, 3) := by decide +kernel
theorem dX8_advance_219 : decode cX8_advance 219 = .ok (.imul, 1) := by decide +kernel
theorem dX8_advance_220 : decode cX8_advance 220 = .ok (.aload_n 0, 1) := by decide +kernel
theorem dX8_advance_221 : decode cX8_advance 221 = .ok (.invokevirtual 90, 3) := by decide +kernel
theorem dX8_advance_224 : decode cX8_advance 224 = .ok (.iadd, 1) := by decide +kernel
theorem dX8_advance_225 : decode cX8_advance 225 = .ok (.bipush 48, 2) := by decide +kernel
theorem dX8_advance_227 : decode cX8_advance 227 = .ok (.isub, 1) := by decide +kernel
theorem dX8_advance_228 : decode cX8_advance 228 = .ok (.putfield 101, 3) := by decide +kernel
theorem dX8_advance_231 : decode cX8_advance 231 = .ok (.aload_n 0, 1) := by decide +kernel
theorem dX8_advance_232 : decode cX8_advance 232 = .ok (.dup, 1) := by decide +kernel
theorem dX8_advance_233 : decode cX8_advance 233 = .ok (.getfield 84, 3) := by decide +kernel
theorem dX8_advance_236 : decode cX8_advance 236 = .ok (.iconst 1, 1) := by decide +kernel
theorem dX8_advance_237 : decode cX8_advance 237 = .ok (.iadd, 1) := by decide +kernel
theorem dX8_advance_238 : decode cX8_advance 238 = .ok (.putfield 84, 3) := by decide +kernel
theorem dX8_advance_241 : decode cX8_advance 241 = .ok (.goto (-57), 3) := by decide +kernel
theorem dX8_advance_244 : decode cX8_advance 244 = .ok (.aload_n 0, 1) := by decide +kernel
theorem dX8_advance_245 : decode cX8_advance 245 = .ok (.iload_n 1, 1) := by decide +kernel
theorem dX8_advance_246 : decode cX8_advance 246 = .ok (.bipush 59, 2) := by decide +kernel
theorem dX8_advance_248 : decode cX8_advance 248 = .ok (.if_icmp .ne 7, 3) := by decide +kernel
theorem dX8_advance_251 : decode cX8_advance 251 = .ok (.iconst 3, 1) := by decide +kernel
theorem dX8_advance_252 : decode cX8_advance 252 = .ok (.goto 4, 3) := by decide +kernel
theorem dX8_advance_255 : decode cX8_advance 255 = .ok (.iconst 4, 1) := by decide +kernel
theorem dX8_advance_256 : decode cX8_advance 256 = .ok (.putfield 104, 3) := by decide +kernel
theorem dX8_advance_259 : decode cX8_advance 259 = .ok (.aload_n 0, 1) := by decide +kernel
theorem dX8_advance_260 : decode cX8_advance 260 = .ok (.dup, 1) := by decide +kernel
theorem dX8_advance_261 : decode cX8_advance 261 = .ok (.getfield 84, 3) := by decide +kernel
theorem dX8_advance_264 : decode cX8_advance 264 = .ok (.iconst 1, 1) := by decide +kernel
theorem dX8_advance_265 : decode cX8_advance 265 = .ok (.iadd, 1) := by decide +kernel
theorem dX8_advance_266 : decode cX8_advance 266 = .ok (.putfield 84, 3) := by decide +kernel
theorem dX8_advance_269 : decode cX8_advance 269 = .ok (.return_, 1) := by decide +kernel
theorem dX8_check_0 : decode cX8_check 0 = .ok (.iload_n 1, 1) := by decide +kernel
theorem dX8_check_1 : decode cX8_check 1 = .ok (.ifCond .ne 10, 3) := by decide +kernel
theorem dX8_check_4 : decode cX8_check 4 = .ok (.aload_n 0, 1) := by decide +kernel
theorem dX8_check_5 : decode cX8_check 5 = .ok (.getfield 113, 3) := by decide +kernel
theorem dX8_check_8 : decode cX8_check 8 = .ok (.ifCond .eq 4, 3) := by decide +kernel
theorem dX8_check_11 : decode cX8_check 11 = .ok (.return_, 1) := by decide +kernel
theorem dX8_check_12 : decode cX8_check 12 = .ok (.aload_n 0, 1) := by decide +kernel
theorem dX8_check_13 : decode cX8_check 13 = .ok (.iload_n 2, 1) := by decide +kernel
theorem dX8_check_14 : decode cX8_check 14 = .ok (.putfield 113, 3) := by decide +kernel
theorem dX8_check_17 : decode cX8_check 17 = .ok (.aload_n 0, 1) := by decide +kernel
theorem dX8_check_18 : decode cX8_check 18 = .ok (.aload_n 0, 1) := by decide +kernel
theorem dX8_check_19 : decode cX8_check 19 = .ok (.getfield 94, 3) := by decide +kernel
theorem dX8_check_22 : decode cX8_check 22 = .ok (.putfield 36, 3) := by decide +kernel
theorem dX8_check_25 : decode cX8_check 25 = .ok (.return_, 1) := by decide +kernel
theorem dX8_advanceIfGood_0 : decode cX8_advanceIfGood 0 = .ok (.aload_n 0, 1) := by decide +kernel
theorem dX8_advanceIfGood_1 : decode cX8_advanceIfGood 1 = .ok (.getfield 113, 3) := by decide +kernel
theorem dX8_advanceIfGood_4 : decode cX8_advanceIfGood 4 = .ok (.ifCond .ne 7, 3) := by decide +kernel
theorem dX8_advanceIfGood_7 : decode cX8_advanceIfGood 7 = .ok (.aload_n 0, 1) := by decide +kernel
theorem dX8_advanceIfGood_8 : decode cX8_advanceIfGood 8 = .ok (.invokevirtual 116, 3) := by decide +kernel
theorem dX8_advanceIfGood_11 : decode cX8_advanceIfGood 11 = .ok (.return_, 1) := by decide +kernel
theorem dX8_isWord_0 : decode cX8_isWord 0 = .ok (.aload_n 0, 1) := by decide +kernel
theorem dX8_isWord_1 : decode cX8_isWord 1 = .ok (.getfield 113, 3) := by decide +kernel
theorem dX8_isWord_4 : decode cX8_isWord 4 = .ok (.ifCond .ne 24, 3) := by decide +kernel
theorem dX8_isWord_7 : decode cX8_isWord 7 = .ok (.aload_n 0, 1) := by decide +kernel
theorem dX8_isWord_8 : decode cX8_isWord 8 = .ok (.getfield 104, 3) := by decide +kernel
theorem dX8_isWord_11 : decode cX8_isWord 11 = .ok (.iconst 1, 1) := by decide +kernel
theorem dX8_isWord_12 : decode cX8_isWord 12 = .ok (.if_icmp .ne 16, 3) := by decide +kernel
theorem dX8_isWord_15 : decode cX8_isWord 15 = .ok (.aload_n 0, 1) := by decide +kernel
theorem dX8_isWord_16 : decode cX8_isWord 16 = .ok (.getfield 97, 3) := by decide +kernel
theorem dX8_isWord_19 : decode cX8_isWord 19 = .ok (.lload_n 1, 1) := by decide +kernel
theorem dX8_isWord_20 : decode cX8_isWord 20 = .ok (.lcmp, 1) := by decide +kernel
theorem dX8_isWord_21 : decode cX8_isWord 21 = .ok (.ifCond .ne 7, 3) := by decide +kernel
theorem dX8_isWord_24 : decode cX8_isWord 24 = .ok (.iconst 1, 1) := by decide +kernel
theorem dX8_isWord_25 : decode cX8_isWord 25 = .ok (.goto 4, 3) := by decide +kernel
theorem dX8_isWord_28 : decode cX8_isWord 28 = .ok (.iconst 0, 1) := by decide +kernel
theorem dX8_isWord_29 : decode cX8_isWord 29 = .ok (.ireturn, 1) := by decide +kernel
theorem dX8_readInteger_0 : decode cX8_readInteger 0 = .ok (.aload_n 0, 1) := by decide +kernel
theorem dX8_readInteger_1 : decode cX8_readInteger 1 = .ok (.aload_n 0, 1) := by decide +kernel
theorem dX8_readInteger_2 : decode cX8_readInteger 2 = .ok (.getfield 104, 3) := by decide +kernel
theorem dX8_readInteger_5 : decode cX8_readInteger 5 = .ok (.iconst 2, 1) := by decide +kernel
theorem dX8_readInteger_6 : decode cX8_readInteger 6 = .ok (.if_icmp .ne 7, 3) := by decide +kernel
theorem dX8_readInteger_9 : decode cX8_readInteger 9 = .ok (.iconst 1, 1) := by decide +kernel
theorem dX8_readInteger_10 : decode cX8_readInteger 10 = .ok (.goto 4, 3) := by decide +kernel
theorem dX8_readInteger_13 : decode cX8_readInteger 13 = .ok (.iconst 0, 1) := by decide +kernel
theorem dX8_readInteger_14 : decode cX8_readInteger 14 = .ok (.bipush (-11), 2) := by decide +kernel
theorem dX8_readInteger_16 : decode cX8_readInteger 16 = .ok (.invokevirtual 119, 3) := by decide +kernel
theorem dX8_readInteger_19 : decode cX8_readInteger 19 = .ok (.aload_n 0, 1) := by decide +kernel
theorem dX8_readInteger_20 : decode cX8_readInteger 20 = .ok (.aload_n 0, 1) := by decide +kernel
theorem dX8_readInteger_21 : decode cX8_readInteger 21 = .ok (.getfield 101, 3) := by decide +kernel
theorem dX8_readInteger_24 : decode cX8_readInteger 24 = .ok (.iload_n 1, 1) := by decide +kernel
theorem dX8_readInteger_25 : decode cX8_readInteger 25 = .ok (.iload_n 2, 1) := by decide +kernel
theorem dX8_readInteger_26 : decode cX8_readInteger 26 = .ok (.invokestatic 107, 3) := by decide +kernel
theorem dX8_readInteger_29 : decode cX8_readInteger 29 = .ok (.bipush (-12), 2) := by decide +kernel
theorem dX8_readInteger_31 : decode cX8_readInteger 31 = .ok (.invokevirtual 119, 3) := by decide +kernel
theorem dX8_readInteger_34 : decode cX8_readInteger 34 = .ok (.aload_n 0, 1) := by decide +kernel
theorem dX8_readInteger_35 : decode cX8_readInteger 35 = .ok (.getfield 101, 3) := by decide +kernel
theorem dX8_readInteger_38 : decode cX8_readInteger 38 = .ok (.istore_n 3, 1) := by decide +kernel
theorem dX8_readInteger_39 : decode cX8_readInteger 39 = .ok (.aload_n 0, 1) := by decide +kernel
theorem dX8_readInteger_40 : decode cX8_readInteger 40 = .ok (.invokevirtual 123, 3) := by decide +kernel
theorem dX8_readInteger_43 : decode cX8_readInteger 43 = .ok (.iload_n 3, 1) := by decide +kernel
theorem dX8_readInteger_44 : decode cX8_readInteger 44 = .ok (.ireturn, 1) := by decide +kernel
theorem dX8_isKeyword_0 : decode cX8_isKeyword 0 = .ok (.aload_n 0, 1) := by decide +kernel
theorem dX8_isKeyword_1 : decode cX8_isKeyword 1 = .ok (.getfield 97, 3) := by decide +kernel
theorem dX8_isKeyword_4 : decode cX8_isKeyword 4 = .ok (.ldc2_w 126, 3) := by decide +kernel
theorem dX8_isKeyword_7 : decode cX8_isKeyword 7 = .ok (.lcmp, 1) := by decide +kernel
theorem dX8_isKeyword_8 : decode cX8_isKeyword 8 = .ok (.ifCond .eq 69, 3) := by decide +kernel
theorem dX8_isKeyword_11 : decode cX8_isKeyword 11 = .ok (.aload_n 0, 1) := by decide +kernel
theorem dX8_isKeyword_12 : decode cX8_isKeyword 12 = .ok (.getfield 97, 3) := by decide +kernel
theorem dX8_isKeyword_15 : decode cX8_isKeyword 15 = .ok (.ldc2_w 128, 3) := by decide +kernel
theorem dX8_isKeyword_18 : decode cX8_isKeyword 18 = .ok (.lcmp, 1) := by decide +kernel
theorem dX8_isKeyword_19 : decode cX8_isKeyword 19 = .ok (.ifCond .eq 58, 3) := by decide +kernel
theorem dX8_isKeyword_22 : decode cX8_isKeyword 22 = .ok (.aload_n 0, 1) := by decide +kernel
theorem dX8_isKeyword_23 : decode cX8_isKeyword 23 = .ok (.getfield 97, 3) := by decide +kernel
theorem dX8_isKeyword_26 : decode cX8_isKeyword 26 = .ok (.ldc2_w 130, 3) := by decide +kernel
theorem dX8_isKeyword_29 : decode cX8_isKeyword 29 = .ok (.lcmp, 1) := by decide +kernel
theorem dX8_isKeyword_30 : decode cX8_isKeyword 30 = .ok (.ifCond .eq 47, 3) := by decide +kernel
theorem dX8_isKeyword_33 : decode cX8_isKeyword 33 = .ok (.aload_n 0, 1) := by decide +kernel
theorem dX8_isKeyword_34 : decode cX8_isKeyword 34 = .ok (.getfield 97, 3) := by decide +kernel
theorem dX8_isKeyword_37 : decode cX8_isKeyword 37 = .ok (.ldc2_w 132, 3) := by decide +kernel
theorem dX8_isKeyword_40 : decode cX8_isKeyword 40 = .ok (.lcmp, 1) := by decide +kernel
theorem dX8_isKeyword_41 : decode cX8_isKeyword 41 = .ok (.ifCond .eq 36, 3) := by decide +kernel
theorem dX8_isKeyword_44 : decode cX8_isKeyword 44 = .ok (.aload_n 0, 1) := by decide +kernel
theorem dX8_isKeyword_45 : decode cX8_isKeyword 45 = .ok (.getfield 97, 3) := by decide +kernel
theorem dX8_isKeyword_48 : decode cX8_isKeyword 48 = .ok (.ldc2_w 134, 3) := by decide +kernel
theorem dX8_isKeyword_51 : decode cX8_isKeyword 51 = .ok (.lcmp, 1) := by decide +kernel
theorem dX8_isKeyword_52 : decode cX8_isKeyword 52 = .ok (.ifCond .eq 25, 3) := by decide +kernel
theorem dX8_isKeyword_55 : decode cX8_isKeyword 55 = .ok (.aload_n 0, 1) := by decide +kernel
theorem dX8_isKeyword_56 : decode cX8_isKeyword 56 = .ok (.getfield 97, 3) := by decide +kernel
theorem dX8_isKeyword_59 : decode cX8_isKeyword 59 = .ok (.ldc2_w 136, 3) := by decide +kernel
theorem dX8_isKeyword_62 : decode cX8_isKeyword 62 = .ok (.lcmp, 1) := by decide +kernel
theorem dX8_isKeyword_63 : decode cX8_isKeyword 63 = .ok (.ifCond .eq 14, 3) := by decide +kernel
theorem dX8_isKeyword_66 : decode cX8_isKeyword 66 = .ok (.aload_n 0, 1) := by decide +kernel
theorem dX8_isKeyword_67 : decode cX8_isKeyword 67 = .ok (.getfield 97, 3) := by decide +kernel
theorem dX8_isKeyword_70 : decode cX8_isKeyword 70 = .ok (.ldc2_w 138, 3) := by decide +kernel
theorem dX8_isKeyword_73 : decode cX8_isKeyword 73 = .ok (.lcmp, 1) := by decide +kernel
theorem dX8_isKeyword_74 : decode cX8_isKeyword 74 = .ok (.ifCond .ne 7, 3) := by decide +kernel
theorem dX8_isKeyword_77 : decode cX8_isKeyword 77 = .ok (.iconst 1, 1) := by decide +kernel
theorem dX8_isKeyword_78 : decode cX8_isKeyword 78 = .ok (.goto 4, 3) := by decide +kernel
theorem dX8_isKeyword_81 : decode cX8_isKeyword 81 = .ok (.iconst 0, 1) := by decide +kernel
theorem dX8_isKeyword_82 : decode cX8_isKeyword 82 = .ok (.ireturn, 1) := by decide +kernel
theorem dX8_lettersHere_0 : decode cX8_lettersHere 0 = .ok (.aload_n 0, 1) := by decide +kernel
theorem dX8_lettersHere_1 : decode cX8_lettersHere 1 = .ok (.aload_n 0, 1) := by decide +kernel
theorem dX8_lettersHere_2 : decode cX8_lettersHere 2 = .ok (.getfield 104, 3) := by decide +kernel
theorem dX8_lettersHere_5 : decode cX8_lettersHere 5 = .ok (.iconst 1, 1) := by decide +kernel
theorem dX8_lettersHere_6 : decode cX8_lettersHere 6 = .ok (.if_icmp .ne 28, 3) := by decide +kernel
theorem dX8_lettersHere_9 : decode cX8_lettersHere 9 = .ok (.aload_n 0, 1) := by decide +kernel
theorem dX8_lettersHere_10 : decode cX8_lettersHere 10 = .ok (.getfield 84, 3) := by decide +kernel
theorem dX8_lettersHere_13 : decode cX8_lettersHere 13 = .ok (.aload_n 0, 1) := by decide +kernel
theorem dX8_lettersHere_14 : decode cX8_lettersHere 14 = .ok (.getfield 94, 3) := by decide +kernel
theorem dX8_lettersHere_17 : decode cX8_lettersHere 17 = .ok (.isub, 1) := by decide +kernel
theorem dX8_lettersHere_18 : decode cX8_lettersHere 18 = .ok (.bipush 6, 2) := by decide +kernel
theorem dX8_lettersHere_20 : decode cX8_lettersHere 20 = .ok (.if_icmp .gt 14, 3) := by decide +kernel
theorem dX8_lettersHere_23 : decode cX8_lettersHere 23 = .ok (.aload_n 0, 1) := by decide +kernel
theorem dX8_lettersHere_24 : decode cX8_lettersHere 24 = .ok (.invokevirtual 140, 3) := by decide +kernel
theorem dX8_lettersHere_27 : decode cX8_lettersHere 27 = .ok (.ifCond .ne 7, 3) := by decide +kernel
theorem dX8_lettersHere_30 : decode cX8_lettersHere 30 = .ok (.iconst 1, 1) := by decide +kernel
theorem dX8_lettersHere_31 : decode cX8_lettersHere 31 = .ok (.goto 4, 3) := by decide +kernel
theorem dX8_lettersHere_34 : decode cX8_lettersHere 34 = .ok (.iconst 0, 1) := by decide +kernel
theorem dX8_lettersHere_35 : decode cX8_lettersHere 35 = .ok (.bipush (-11), 2) := by decide +kernel
theorem dX8_lettersHere_37 : decode cX8_lettersHere 37 = .ok (.invokevirtual 119, 3) := by decide +kernel
theorem dX8_lettersHere_40 : decode cX8_lettersHere 40 = .ok (.aload_n 0, 1) := by decide +kernel
theorem dX8_lettersHere_41 : decode cX8_lettersHere 41 = .ok (.getfield 97, 3) := by decide +kernel
theorem dX8_lettersHere_44 : decode cX8_lettersHere 44 = .ok (.l2i, 1) := by decide +kernel
theorem dX8_lettersHere_45 : decode cX8_lettersHere 45 = .ok (.istore_n 1, 1) := by decide +kernel
theorem dX8_lettersHere_46 : decode cX8_lettersHere 46 = .ok (.aload_n 0, 1) := by decide +kernel
theorem dX8_lettersHere_47 : decode cX8_lettersHere 47 = .ok (.getfield 84, 3) := by decide +kernel
theorem dX8_lettersHere_50 : decode cX8_lettersHere 50 = .ok (.aload_n 0, 1) := by decide +kernel
theorem dX8_lettersHere_51 : decode cX8_lettersHere 51 = .ok (.getfield 94, 3) := by decide +kernel
theorem dX8_lettersHere_54 : decode cX8_lettersHere 54 = .ok (.isub, 1) := by decide +kernel
theorem dX8_lettersHere_55 : decode cX8_lettersHere 55 = .ok (.istore_n 2, 1) := by decide +kernel
theorem dX8_lettersHere_56 : decode cX8_lettersHere 56 = .ok (.iload_n 2, 1) := by decide +kernel
theorem dX8_lettersHere_57 : decode cX8_lettersHere 57 = .ok (.bipush 6, 2) := by decide +kernel
theorem dX8_lettersHere_59 : decode cX8_lettersHere 59 = .ok (.if_icmp .ge 13, 3) := by decide +kernel
theorem dX8_lettersHere_62 : decode cX8_lettersHere 62 = .ok (.iload_n 1, 1) := by decide +kernel
theorem dX8_lettersHere_63 : decode cX8_lettersHere 63 = .ok (.iconst 5, 1) := by decide +kernel
theorem dX8_lettersHere_64 : decode cX8_lettersHere 64 = .ok (.ishl, 1) := by decide +kernel
theorem dX8_lettersHere_65 : decode cX8_lettersHere 65 = .ok (.istore_n 1, 1) := by decide +kernel
theorem dX8_lettersHere_66 : decode cX8_lettersHere 66 = .ok (.iinc 2 1, 3) := by decide +kernel
theorem dX8_lettersHere_69 : decode cX8_lettersHere 69 = .ok (.goto (-13), 3) := by decide +kernel
theorem dX8_lettersHere_72 : decode cX8_lettersHere 72 = .ok (.iload_n 1, 1) := by decide +kernel
theorem dX8_lettersHere_73 : decode cX8_lettersHere 73 = .ok (.ireturn, 1) := by decide +kernel
theorem dX8_find_0 : decode cX8_find 0 = .ok (.iload_n 1, 1) := by decide +kernel
theorem dX8_find_1 : decode cX8_find 1 = .ok (.ifCond .ne 8, 3) := by decide +kernel
theorem dX8_find_4 : decode cX8_find 4 = .ok (.bipush 118, 2) := by decide +kernel
theorem dX8_find_6 : decode cX8_find 6 = .ok (.goto 5, 3) := by decide +kernel
theorem dX8_find_9 : decode cX8_find 9 = .ok (.bipush 121, 2) := by decide +kernel
theorem dX8_find_11 : decode cX8_find 11 = .ok (.istore_n 3, 1) := by decide +kernel
theorem dX8_find_12 : decode cX8_find 12 = .ok (.iconst 0, 1) := by decide +kernel
theorem dX8_find_13 : decode cX8_find 13 = .ok (.istore 4, 2) := by decide +kernel
theorem dX8_find_15 : decode cX8_find 15 = .ok (.iload 4, 2) := by decide +kernel
theorem dX8_find_17 : decode cX8_find 17 = .ok (.aload_n 0, 1) := by decide +kernel
theorem dX8_find_18 : decode cX8_find 18 = .ok (.iconst 0, 1) := by decide +kernel
theorem dX8_find_19 : decode cX8_find 19 = .ok (.iload_n 1, 1) := by decide +kernel
theorem dX8_find_20 : decode cX8_find 20 = .ok (.iadd, 1) := by decide +kernel
theorem dX8_find_21 : decode cX8_find 21 = .ok (.iaload, 1) := by decide +kernel
theorem dX8_find_22 : decode cX8_find 22 = .ok (.if_icmp .ge 22, 3) := by decide +kernel
theorem dX8_find_25 : decode cX8_find 25 = .ok (.aload_n 0, 1) := by decide +kernel
theorem dX8_find_26 : decode cX8_find 26 = .ok (.iload_n 3, 1) := by decide +kernel
theorem dX8_find_27 : decode cX8_find 27 = .ok (.iload 4, 2) := by decide +kernel
theorem dX8_find_29 : decode cX8_find 29 = .ok (.iadd, 1) := by decide +kernel
theorem dX8_find_30 : decode cX8_find 30 = .ok (.iaload, 1) := by decide +kernel
theorem dX8_find_31 : decode cX8_find 31 = .ok (.iload_n 2, 1) := by decide +kernel
theorem dX8_find_32 : decode cX8_find 32 = .ok (.if_icmp .ne 6, 3) := by decide +kernel
theorem dX8_find_35 : decode cX8_find 35 = .ok (.iload 4, 2) := by decide +kernel
theorem dX8_find_37 : decode cX8_find 37 = .ok (.ireturn, 1) := by decide +kernel
theorem dX8_find_38 : decode cX8_find 38 = .ok (.iinc 4 1, 3) := by decide +kernel
theorem dX8_find_41 : decode cX8_find 41 = .ok (.goto (-26), 3) := by decide +kernel
theorem dX8_find_44 : decode cX8_find 44 = .ok (.iconst (-1), 1) := by decide +kernel
theorem dX8_find_45 : decode cX8_find 45 = .ok (.ireturn, 1) := by decide +kernel
theorem dX8_readNewName_0 : decode cX8_readNewName 0 = .ok (.aload_n 0, 1) := by decide +kernel
theorem dX8_readNewName_1 : decode cX8_readNewName 1 = .ok (.getfield 113, 3) := by decide +kernel
theorem dX8_readNewName_4 : decode cX8_readNewName 4 = .ok (.ifCond .ne 10, 3) := by decide +kernel
theorem dX8_readNewName_7 : decode cX8_readNewName 7 = .ok (.aload_n 0, 1) := by decide +kernel
theorem dX8_readNewName_8 : decode cX8_readNewName 8 = .ok (.invokevirtual 144, 3) := by decide +kernel
theorem dX8_readNewName_11 : decode cX8_readNewName 11 = .ok (.goto 4, 3) := by decide +kernel
theorem dX8_readNewName_14 : decode cX8_readNewName 14 = .ok (.iconst 0, 1) := by decide +kernel
theorem dX8_readNewName_15 : decode cX8_readNewName 15 = .ok (.istore_n 1, 1) := by decide +kernel
theorem dX8_readNewName_16 : decode cX8_readNewName 16 = .ok (.aload_n 0, 1) := by decide +kernel
theorem dX8_readNewName_17 : decode cX8_readNewName 17 = .ok (.aload_n 0, 1) := by decide +kernel
theorem dX8_readNewName_18 : decode cX8_readNewName 18 = .ok (.getfield 29, 3) := by decide +kernel
theorem dX8_readNewName_21 : decode cX8_readNewName 21 = .ok (.iconst 0, 1) := by decide +kernel
theorem dX8_readNewName_22 : decode cX8_readNewName 22 = .ok (.iload_n 1, 1) := by decide +kernel
theorem dX8_readNewName_23 : decode cX8_readNewName 23 = .ok (.invokestatic 147, 3) := by decide +kernel
theorem dX8_readNewName_26 : decode cX8_readNewName 26 = .ok (.ifCond .ge 19, 3) := by decide +kernel
theorem dX8_readNewName_29 : decode cX8_readNewName 29 = .ok (.aload_n 0, 1) := by decide +kernel
theorem dX8_readNewName_30 : decode cX8_readNewName 30 = .ok (.getfield 29, 3) := by decide +kernel
theorem dX8_readNewName_33 : decode cX8_readNewName 33 = .ok (.iconst 1, 1) := by decide +kernel
theorem dX8_readNewName_34 : decode cX8_readNewName 34 = .ok (.iload_n 1, 1) := by decide +kernel
theorem dX8_readNewName_35 : decode cX8_readNewName 35 = .ok (.invokestatic 147, 3) := by decide +kernel
theorem dX8_readNewName_38 : decode cX8_readNewName 38 = .ok (.ifCond .ge 7, 3) := by decide +kernel
theorem dX8_readNewName_41 : decode cX8_readNewName 41 = .ok (.iconst 1, 1) := by decide +kernel
theorem dX8_readNewName_42 : decode cX8_readNewName 42 = .ok (.goto 4, 3) := by decide +kernel
theorem dX8_readNewName_45 : decode cX8_readNewName 45 = .ok (.iconst 0, 1) := by decide +kernel
theorem dX8_readNewName_46 : decode cX8_readNewName 46 = .ok (.bipush (-14), 2) := by decide +kernel
theorem dX8_readNewName_48 : decode cX8_readNewName 48 = .ok (.invokevirtual 119, 3) := by decide +kernel
theorem dX8_readNewName_51 : decode cX8_readNewName 51 = .ok (.aload_n 0, 1) := by decide +kernel
theorem dX8_readNewName_52 : decode cX8_readNewName 52 = .ok (.invokevirtual 123, 3) := by decide +kernel
theorem dX8_readNewName_55 : decode cX8_readNewName 55 = .ok (.iload_n 1, 1) := by decide +kernel
theorem dX8_readNewName_56 : decode cX8_readNewName 56 = .ok (.ireturn, 1) := by decide +kernel
theorem dX8_oldHere_0 : decode cX8_oldHere 0 = .ok (.aload_n 0, 1) := by decide +kernel
theorem dX8_oldHere_1 : decode cX8_oldHere 1 = .ok (.getfield 113, 3) := by decide +kernel
theorem dX8_oldHere_4 : decode cX8_oldHere 4 = .ok (.ifCond .ne 18, 3) := by decide +kernel
theorem dX8_oldHere_7 : decode cX8_oldHere 7 = .ok (.aload_n 0, 1) := by decide +kernel
theorem dX8_oldHere_8 : decode cX8_oldHere 8 = .ok (.getfield 29, 3) := by decide +kernel
theorem dX8_oldHere_11 : decode cX8_oldHere 11 = .ok (.iload_n 1, 1) := by decide +kernel
theorem dX8_oldHere_12 : decode cX8_oldHere 12 = .ok (.aload_n 0, 1) := by decide +kernel
theorem dX8_oldHere_13 : decode cX8_oldHere 13 = .ok (.invokevirtual 144, 3) := by decide +kernel
theorem dX8_oldHere_16 : decode cX8_oldHere 16 = .ok (.invokestatic 147, 3) := by decide +kernel
theorem dX8_oldHere_19 : decode cX8_oldHere 19 = .ok (.goto 4, 3) := by decide +kernel
theorem dX8_oldHere_22 : decode cX8_oldHere 22 = .ok (.iconst (-1), 1) := by decide +kernel
theorem dX8_oldHere_23 : decode cX8_oldHere 23 = .ok (.istore_n 2, 1) := by decide +kernel
theorem dX8_oldHere_24 : decode cX8_oldHere 24 = .ok (.aload_n 0, 1) := by decide +kernel
theorem dX8_oldHere_25 : decode cX8_oldHere 25 = .ok (.iload_n 2, 1) := by decide +kernel
theorem dX8_oldHere_26 : decode cX8_oldHere 26 = .ok (.ifCond .lt 7, 3) := by decide +kernel
theorem dX8_oldHere_29 : decode cX8_oldHere 29 = .ok (.iconst 1, 1) := by decide +kernel
theorem dX8_oldHere_30 : decode cX8_oldHere 30 = .ok (.goto 4, 3) := by decide +kernel
theorem dX8_oldHere_33 : decode cX8_oldHere 33 = .ok (.iconst 0, 1) := by decide +kernel
theorem dX8_oldHere_34 : decode cX8_oldHere 34 = .ok (.bipush (-13), 2) := by decide +kernel
theorem dX8_oldHere_36 : decode cX8_oldHere 36 = .ok (.invokevirtual 119, 3) := by decide +kernel
theorem dX8_oldHere_39 : decode cX8_oldHere 39 = .ok (.iload_n 2, 1) := by decide +kernel
theorem dX8_oldHere_40 : decode cX8_oldHere 40 = .ok (.ireturn, 1) := by decide +kernel
theorem dX8_readOldName_0 : decode cX8_readOldName 0 = .ok (.aload_n 0, 1) := by decide +kernel
theorem dX8_readOldName_1 : decode cX8_readOldName 1 = .ok (.iload_n 1, 1) := by decide +kernel
theorem dX8_readOldName_2 : decode cX8_readOldName 2 = .ok (.invokevirtual 151, 3) := by decide +kernel
theorem dX8_readOldName_5 : decode cX8_readOldName 5 = .ok (.istore_n 2, 1) := by decide +kernel
theorem dX8_readOldName_6 : decode cX8_readOldName 6 = .ok (.aload_n 0, 1) := by decide +kernel
theorem dX8_readOldName_7 : decode cX8_readOldName 7 = .ok (.invokevirtual 123, 3) := by decide +kernel
theorem dX8_readOldName_10 : decode cX8_readOldName 10 = .ok (.iload_n 2, 1) := by decide +kernel
theorem dX8_readOldName_11 : decode cX8_readOldName 11 = .ok (.ireturn, 1) := by decide +kernel
theorem dX8_begin_0 : decode cX8_begin 0 = .ok (.aload_n 0, 1) := by decide +kernel
theorem dX8_begin_1 : decode cX8_begin 1 = .ok (.aload_n 0, 1) := by decide +kernel
theorem dX8_begin_2 : decode cX8_begin 2 = .ok (.getfield 29, 3) := by decide +kernel
theorem dX8_begin_5 : decode cX8_begin 5 = .ok (.iconst 0, 1) := by decide +kernel
theorem dX8_begin_6 : decode cX8_begin 6 = .ok (.iload_n 1, 1) := by decide +kernel
theorem dX8_begin_7 : decode cX8_begin 7 = .ok (.iadd, 1) := by decide +kernel
theorem dX8_begin_8 : decode cX8_begin 8 = .ok (.iaload, 1) := by decide +kernel
theorem dX8_begin_9 : decode cX8_begin 9 = .ok (.iload_n 2, 1) := by decide +kernel
theorem dX8_begin_10 : decode cX8_begin 10 = .ok (.if_icmp .ge 7, 3) := by decide +kernel
theorem dX8_begin_13 : decode cX8_begin 13 = .ok (.iconst 1, 1) := by decide +kernel
theorem dX8_begin_14 : decode cX8_begin 14 = .ok (.goto 4, 3) := by decide +kernel
theorem dX8_begin_17 : decode cX8_begin 17 = .ok (.iconst 0, 1) := by decide +kernel
theorem dX8_begin_18 : decode cX8_begin 18 = .ok (.bipush (-15), 2) := by decide +kernel
theorem dX8_begin_20 : decode cX8_begin 20 = .ok (.invokevirtual 119, 3) := by decide +kernel
theorem dX8_begin_23 : decode cX8_begin 23 = .ok (.aload_n 0, 1) := by decide +kernel
theorem dX8_begin_24 : decode cX8_begin 24 = .ok (.invokevirtual 123, 3) := by decide +kernel
theorem dX8_begin_27 : decode cX8_begin 27 = .ok (.aload_n 0, 1) := by decide +kernel
theorem dX8_begin_28 : decode cX8_begin 28 = .ok (.getfield 29, 3) := by decide +kernel
theorem dX8_begin_31 : decode cX8_begin 31 = .ok (.iconst 0, 1) := by decide +kernel
theorem dX8_begin_32 : decode cX8_begin 32 = .ok (.iload_n 1, 1) := by decide +kernel
theorem dX8_begin_33 : decode cX8_begin 33 = .ok (.iadd, 1) := by decide +kernel
theorem dX8_begin_34 : decode cX8_begin 34 = .ok (.iaload, 1) := by decide +kernel
theorem dX8_begin_35 : decode cX8_begin 35 = .ok (.ireturn, 1) := by decide +kernel
theorem dX8_parseLevel_0 : decode cX8_parseLevel 0 = .ok (.aload_n 0, 1) := by decide +kernel
theorem dX8_parseLevel_1 : decode cX8_parseLevel 1 = .ok (.iconst 0, 1) := by decide +kernel
theorem dX8_parseLevel_2 : decode cX8_parseLevel 2 = .ok (.iconst 3, 1) := by decide +kernel
theorem dX8_parseLevel_3 : decode cX8_parseLevel 3 = .ok (.invokevirtual 155, 3) := by decide +kernel
theorem dX8_parseLevel_6 : decode cX8_parseLevel 6 = .ok (.istore_n 1, 1) := by decide +kernel
theorem dX8_parseLevel_7 : decode cX8_parseLevel 7 = .ok (.aload_n 0, 1) := by decide +kernel
theorem dX8_parseLevel_8 : decode cX8_parseLevel 8 = .ok (.invokevirtual 159, 3) := by decide +kernel
theorem dX8_parseLevel_11 : decode cX8_parseLevel 11 = .ok (.istore_n 2, 1) := by decide +kernel
theorem dX8_parseLevel_12 : decode cX8_parseLevel 12 = .ok (.aload_n 0, 1) := by decide +kernel
theorem dX8_parseLevel_13 : decode cX8_parseLevel 13 = .ok (.iconst 0, 1) := by decide +kernel
theorem dX8_parseLevel_14 : decode cX8_parseLevel 14 = .ok (.sipush 200, 3) := by decide +kernel
theorem dX8_parseLevel_17 : decode cX8_parseLevel 17 = .ok (.invokevirtual 162, 3) := by decide +kernel
theorem dX8_parseLevel_20 : decode cX8_parseLevel 20 = .ok (.istore_n 3, 1) := by decide +kernel
theorem dX8_parseLevel_21 : decode cX8_parseLevel 21 = .ok (.aload_n 0, 1) := by decide +kernel
theorem dX8_parseLevel_22 : decode cX8_parseLevel 22 = .ok (.ldc2_w 128, 3) := by decide +kernel
theorem dX8_parseLevel_25 : decode cX8_parseLevel 25 = .ok (.invokevirtual 165, 3) := by decide +kernel
theorem dX8_parseLevel_28 : decode cX8_parseLevel 28 = .ok (.istore 4, 2) := by decide +kernel
theorem dX8_parseLevel_30 : decode cX8_parseLevel 30 = .ok (.iload 4, 2) := by decide +kernel
theorem dX8_parseLevel_32 : decode cX8_parseLevel 32 = .ok (.ifCond .eq 7, 3) := by decide +kernel
theorem dX8_parseLevel_35 : decode cX8_parseLevel 35 = .ok (.aload_n 0, 1) := by decide +kernel
theorem dX8_parseLevel_36 : decode cX8_parseLevel 36 = .ok (.invokevirtual 116, 3) := by decide +kernel
theorem dX8_parseLevel_39 : decode cX8_parseLevel 39 = .ok (.aload_n 0, 1) := by decide +kernel
theorem dX8_parseLevel_40 : decode cX8_parseLevel 40 = .ok (.getfield 113, 3) := by decide +kernel
theorem dX8_parseLevel_43 : decode cX8_parseLevel 43 = .ok (.ifCond .eq 4, 3) := by decide +kernel
theorem dX8_parseLevel_46 : decode cX8_parseLevel 46 = .ok (.return_, 1) := by decide +kernel
theorem dX8_parseLevel_47 : decode cX8_parseLevel 47 = .ok (.aload_n 0, 1) := by decide +kernel
theorem dX8_parseLevel_48 : decode cX8_parseLevel 48 = .ok (.getfield 29, 3) := by decide +kernel
theorem dX8_parseLevel_51 : decode cX8_parseLevel 51 = .ok (.bipush 118, 2) := by decide +kernel
theorem dX8_parseLevel_53 : decode cX8_parseLevel 53 = .ok (.iload_n 1, 1) := by decide +kernel
theorem dX8_parseLevel_54 : decode cX8_parseLevel 54 = .ok (.iadd, 1) := by decide +kernel
theorem dX8_parseLevel_55 : decode cX8_parseLevel 55 = .ok (.iload_n 2, 1) := by decide +kernel
theorem dX8_parseLevel_56 : decode cX8_parseLevel 56 = .ok (.iastore, 1) := by decide +kernel
theorem dX8_parseLevel_57 : decode cX8_parseLevel 57 = .ok (.aload_n 0, 1) := by decide +kernel
theorem dX8_parseLevel_58 : decode cX8_parseLevel 58 = .ok (.getfield 13, 3) := by decide +kernel
theorem dX8_parseLevel_61 : decode cX8_parseLevel 61 = .ok (.iconst 3, 1) := by decide +kernel
theorem dX8_parseLevel_62 : decode cX8_parseLevel 62 = .ok (.iload_n 1, 1) := by decide +kernel
theorem dX8_parseLevel_63 : decode cX8_parseLevel 63 = .ok (.iadd, 1) := by decide +kernel
theorem dX8_parseLevel_64 : decode cX8_parseLevel 64 = .ok (.iload 4, 2) := by decide +kernel
theorem dX8_parseLevel_66 : decode cX8_parseLevel 66 = .ok (.ifCond .eq 8, 3) := by decide +kernel
theorem dX8_parseLevel_69 : decode cX8_parseLevel 69 = .ok (.iload_n 3, 1) := by decide +kernel
theorem dX8_parseLevel_70 : decode cX8_parseLevel 70 = .ok (.ineg, 1) := by decide +kernel
theorem dX8_parseLevel_71 : decode cX8_parseLevel 71 = .ok (.goto 4, 3) := by decide +kernel
theorem dX8_parseLevel_74 : decode cX8_parseLevel 74 = .ok (.iload_n 3, 1) := by decide +kernel
theorem dX8_parseLevel_75 : decode cX8_parseLevel 75 = .ok (.iastore, 1) := by decide +kernel
theorem dX8_parseLevel_76 : decode cX8_parseLevel 76 = .ok (.aload_n 0, 1) := by decide +kernel
theorem dX8_parseLevel_77 : decode cX8_parseLevel 77 = .ok (.getfield 29, 3) := by decide +kernel
theorem dX8_parseLevel_80 : decode cX8_parseLevel 80 = .ok (.iconst 0, 1) := by decide +kernel
theorem dX8_parseLevel_81 : decode cX8_parseLevel 81 = .ok (.dup2, 1) := by decide +kernel
theorem dX8_parseLevel_82 : decode cX8_parseLevel 82 = .ok (.iaload, 1) := by decide +kernel
theorem dX8_parseLevel_83 : decode cX8_parseLevel 83 = .ok (.iconst 1, 1) := by decide +kernel
theorem dX8_parseLevel_84 : decode cX8_parseLevel 84 = .ok (.iadd, 1) := by decide +kernel
theorem dX8_parseLevel_85 : decode cX8_parseLevel 85 = .ok (.iastore, 1) := by decide +kernel
theorem dX8_parseLevel_86 : decode cX8_parseLevel 86 = .ok (.return_, 1) := by decide +kernel
theorem dX8_parsePoint_0 : decode cX8_parsePoint 0 = .ok (.aload_n 0, 1) := by decide +kernel
theorem dX8_parsePoint_1 : decode cX8_parsePoint 1 = .ok (.iconst 1, 1) := by decide +kernel
theorem dX8_parsePoint_2 : decode cX8_parsePoint 2 = .ok (.bipush 16, 2) := by decide +kernel
theorem dX8_parsePoint_4 : decode cX8_parsePoint 4 = .ok (.invokevirtual 155, 3) := by decide +kernel
theorem dX8_parsePoint_7 : decode cX8_parsePoint 7 = .ok (.istore_n 1, 1) := by decide +kernel
theorem dX8_parsePoint_8 : decode cX8_parsePoint 8 = .ok (.aload_n 0, 1) := by decide +kernel
theorem dX8_parsePoint_9 : decode cX8_parsePoint 9 = .ok (.invokevirtual 159, 3) := by decide +kernel
theorem dX8_parsePoint_12 : decode cX8_parsePoint 12 = .ok (.istore_n 2, 1) := by decide +kernel
theorem dX8_parsePoint_13 : decode cX8_parsePoint 13 = .ok (.aload_n 0, 1) := by decide +kernel
theorem dX8_parsePoint_14 : decode cX8_parsePoint 14 = .ok (.getfield 113, 3) := by decide +kernel
theorem dX8_parsePoint_17 : decode cX8_parsePoint 17 = .ok (.ifCond .ne 21, 3) := by decide +kernel
theorem dX8_parsePoint_20 : decode cX8_parsePoint 20 = .ok (.aload_n 0, 1) := by decide +kernel
theorem dX8_parsePoint_21 : decode cX8_parsePoint 21 = .ok (.getfield 104, 3) := by decide +kernel
theorem dX8_parsePoint_24 : decode cX8_parsePoint 24 = .ok (.iconst 2, 1) := by decide +kernel
theorem dX8_parsePoint_25 : decode cX8_parsePoint 25 = .ok (.if_icmp .ne 13, 3) := by decide +kernel
theorem dX8_parsePoint_28 : decode cX8_parsePoint 28 = .ok (.aload_n 0, 1) := by decide +kernel
theorem dX8_parsePoint_29 : decode cX8_parsePoint 29 = .ok (.iconst 0, 1) := by decide +kernel
theorem dX8_parsePoint_30 : decode cX8_parsePoint 30 = .ok (.ldc 169, 2) := by decide +kernel
theorem dX8_parsePoint_32 : decode cX8_parsePoint 32 = .ok (.invokevirtual 162, 3) := by decide +kernel
theorem dX8_parsePoint_35 : decode cX8_parsePoint 35 = .ok (.goto 4, 3) := by decide +kernel
theorem dX8_parsePoint_38 : decode cX8_parsePoint 38 = .ok (.iconst (-1), 1) := by decide +kernel
theorem dX8_parsePoint_39 : decode cX8_parsePoint 39 = .ok (.istore_n 3, 1) := by decide +kernel
theorem dX8_parsePoint_40 : decode cX8_parsePoint 40 = .ok (.aload_n 0, 1) := by decide +kernel
theorem dX8_parsePoint_41 : decode cX8_parsePoint 41 = .ok (.getfield 113, 3) := by decide +kernel
theorem dX8_parsePoint_44 : decode cX8_parsePoint 44 = .ok (.ifCond .eq 4, 3) := by decide +kernel
theorem dX8_parsePoint_47 : decode cX8_parsePoint 47 = .ok (.return_, 1) := by decide +kernel
theorem dX8_parsePoint_48 : decode cX8_parsePoint 48 = .ok (.aload_n 0, 1) := by decide +kernel
theorem dX8_parsePoint_49 : decode cX8_parsePoint 49 = .ok (.getfield 29, 3) := by decide +kernel
theorem dX8_parsePoint_52 : decode cX8_parsePoint 52 = .ok (.bipush 121, 2) := by decide +kernel
theorem dX8_parsePoint_54 : decode cX8_parsePoint 54 = .ok (.iload_n 1, 1) := by decide +kernel
theorem dX8_parsePoint_55 : decode cX8_parsePoint 55 = .ok (.iadd, 1) := by decide +kernel
theorem dX8_parsePoint_56 : decode cX8_parsePoint 56 = .ok (.iload_n 2, 1) := by decide +kernel
theorem dX8_parsePoint_57 : decode cX8_parsePoint 57 = .ok (.iastore, 1) := by decide +kernel
theorem dX8_parsePoint_58 : decode cX8_parsePoint 58 = .ok (.aload_n 0, 1) := by decide +kernel
theorem dX8_parsePoint_59 : decode cX8_parsePoint 59 = .ok (.getfield 13, 3) := by decide +kernel
theorem dX8_parsePoint_62 : decode cX8_parsePoint 62 = .ok (.bipush 6, 2) := by decide +kernel
theorem dX8_parsePoint_64 : decode cX8_parsePoint 64 = .ok (.iload_n 1, 1) := by decide +kernel
theorem dX8_parsePoint_65 : decode cX8_parsePoint 65 = .ok (.iadd, 1) := by decide +kernel
theorem dX8_parsePoint_66 : decode cX8_parsePoint 66 = .ok (.iload_n 3, 1) := by decide +kernel
theorem dX8_parsePoint_67 : decode cX8_parsePoint 67 = .ok (.iastore, 1) := by decide +kernel
theorem dX8_parsePoint_68 : decode cX8_parsePoint 68 = .ok (.aload_n 0, 1) := by decide +kernel
theorem dX8_parsePoint_69 : decode cX8_parsePoint 69 = .ok (.getfield 29, 3) := by decide +kernel
theorem dX8_parsePoint_72 : decode cX8_parsePoint 72 = .ok (.iconst 1, 1) := by decide +kernel
theorem dX8_parsePoint_73 : decode cX8_parsePoint 73 = .ok (.dup2, 1) := by decide +kernel
theorem dX8_parsePoint_74 : decode cX8_parsePoint 74 = .ok (.iaload, 1) := by decide +kernel
theorem dX8_parsePoint_75 : decode cX8_parsePoint 75 = .ok (.iconst 1, 1) := by decide +kernel
theorem dX8_parsePoint_76 : decode cX8_parsePoint 76 = .ok (.iadd, 1) := by decide +kernel
theorem dX8_parsePoint_77 : decode cX8_parsePoint 77 = .ok (.iastore, 1) := by decide +kernel
theorem dX8_parsePoint_78 : decode cX8_parsePoint 78 = .ok (.return_, 1) := by decide +kernel
theorem dX8_readNumber_0 : decode cX8_readNumber 0 = .ok (.aload_n 0, 1) := by decide +kernel
theorem dX8_readNumber_1 : decode cX8_readNumber 1 = .ok (.iload_n 2, 1) := by decide +kernel
theorem dX8_readNumber_2 : decode cX8_readNumber 2 = .ok (.iload_n 3, 1) := by decide +kernel
theorem dX8_readNumber_3 : decode cX8_readNumber 3 = .ok (.invokevirtual 162, 3) := by decide +kernel
theorem dX8_readNumber_6 : decode cX8_readNumber 6 = .ok (.istore 4, 2) := by decide +kernel
theorem dX8_readNumber_8 : decode cX8_readNumber 8 = .ok (.aload_n 0, 1) := by decide +kernel
theorem dX8_readNumber_9 : decode cX8_readNumber 9 = .ok (.getfield 113, 3) := by decide +kernel
theorem dX8_readNumber_12 : decode cX8_readNumber 12 = .ok (.ifCond .ne 11, 3) := by decide +kernel
theorem dX8_readNumber_15 : decode cX8_readNumber 15 = .ok (.aload_n 0, 1) := by decide +kernel
theorem dX8_readNumber_16 : decode cX8_readNumber 16 = .ok (.getfield 13, 3) := by decide +kernel
theorem dX8_readNumber_19 : decode cX8_readNumber 19 = .ok (.iload_n 1, 1) := by decide +kernel
theorem dX8_readNumber_20 : decode cX8_readNumber 20 = .ok (.iload 4, 2) := by decide +kernel
theorem dX8_readNumber_22 : decode cX8_readNumber 22 = .ok (.iastore, 1) := by decide +kernel
theorem dX8_readNumber_23 : decode cX8_readNumber 23 = .ok (.return_, 1) := by decide +kernel
theorem dX8_parseSetup_0 : decode cX8_parseSetup 0 = .ok (.aload_n 0, 1) := by decide +kernel
theorem dX8_parseSetup_1 : decode cX8_parseSetup 1 = .ok (.aload_n 0, 1) := by decide +kernel
theorem dX8_parseSetup_2 : decode cX8_parseSetup 2 = .ok (.getfield 104, 3) := by decide +kernel
theorem dX8_parseSetup_5 : decode cX8_parseSetup 5 = .ok (.iconst 2, 1) := by decide +kernel
theorem dX8_parseSetup_6 : decode cX8_parseSetup 6 = .ok (.if_icmp .ne 7, 3) := by decide +kernel
theorem dX8_parseSetup_9 : decode cX8_parseSetup 9 = .ok (.iconst 1, 1) := by decide +kernel
theorem dX8_parseSetup_10 : decode cX8_parseSetup 10 = .ok (.goto 4, 3) := by decide +kernel
theorem dX8_parseSetup_13 : decode cX8_parseSetup 13 = .ok (.iconst 0, 1) := by decide +kernel
theorem dX8_parseSetup_14 : decode cX8_parseSetup 14 = .ok (.bipush (-11), 2) := by decide +kernel
theorem dX8_parseSetup_16 : decode cX8_parseSetup 16 = .ok (.invokevirtual 119, 3) := by decide +kernel
theorem dX8_parseSetup_19 : decode cX8_parseSetup 19 = .ok (.aload_n 0, 1) := by decide +kernel
theorem dX8_parseSetup_20 : decode cX8_parseSetup 20 = .ok (.aload_n 0, 1) := by decide +kernel
theorem dX8_parseSetup_21 : decode cX8_parseSetup 21 = .ok (.getfield 101, 3) := by decide +kernel
theorem dX8_parseSetup_24 : decode cX8_parseSetup 24 = .ok (.iconst 0, 1) := by decide +kernel
theorem dX8_parseSetup_25 : decode cX8_parseSetup 25 = .ok (.ldc 170, 2) := by decide +kernel
theorem dX8_parseSetup_27 : decode cX8_parseSetup 27 = .ok (.invokestatic 107, 3) := by decide +kernel
theorem dX8_parseSetup_30 : decode cX8_parseSetup 30 = .ok (.bipush (-12), 2) := by decide +kernel
theorem dX8_parseSetup_32 : decode cX8_parseSetup 32 = .ok (.invokevirtual 119, 3) := by decide +kernel
theorem dX8_parseSetup_35 : decode cX8_parseSetup 35 = .ok (.aload_n 0, 1) := by decide +kernel
theorem dX8_parseSetup_36 : decode cX8_parseSetup 36 = .ok (.iload_n 2, 1) := by decide +kernel
theorem dX8_parseSetup_37 : decode cX8_parseSetup 37 = .ok (.bipush 8, 2) := by decide +kernel
theorem dX8_parseSetup_39 : decode cX8_parseSetup 39 = .ok (.if_icmp .ge 7, 3) := by decide +kernel
theorem dX8_parseSetup_42 : decode cX8_parseSetup 42 = .ok (.iconst 1, 1) := by decide +kernel
theorem dX8_parseSetup_43 : decode cX8_parseSetup 43 = .ok (.goto 4, 3) := by decide +kernel
theorem dX8_parseSetup_46 : decode cX8_parseSetup 46 = .ok (.iconst 0, 1) := by decide +kernel
theorem dX8_parseSetup_47 : decode cX8_parseSetup 47 = .ok (.bipush (-15), 2) := by decide +kernel
theorem dX8_parseSetup_49 : decode cX8_parseSetup 49 = .ok (.invokevirtual 119, 3) := by decide +kernel
theorem dX8_parseSetup_52 : decode cX8_parseSetup 52 = .ok (.aload_n 0, 1) := by decide +kernel
theorem dX8_parseSetup_53 : decode cX8_parseSetup 53 = .ok (.getfield 113, 3) := by decide +kernel
theorem dX8_parseSetup_56 : decode cX8_parseSetup 56 = .ok (.ifCond .eq 4, 3) := by decide +kernel
theorem dX8_parseSetup_59 : decode cX8_parseSetup 59 = .ok (.return_, 1) := by decide +kernel
theorem dX8_parseSetup_60 : decode cX8_parseSetup 60 = .ok (.aload_n 0, 1) := by decide +kernel
theorem dX8_parseSetup_61 : decode cX8_parseSetup 61 = .ok (.iload_n 1, 1) := by decide +kernel
theorem dX8_parseSetup_62 : decode cX8_parseSetup 62 = .ok (.iload_n 2, 1) := by decide +kernel
theorem dX8_parseSetup_63 : decode cX8_parseSetup 63 = .ok (.iconst 0, 1) := by decide +kernel
theorem dX8_parseSetup_64 : decode cX8_parseSetup 64 = .ok (.invokestatic 171, 3) := by decide +kernel
theorem dX8_parseSetup_67 : decode cX8_parseSetup 67 = .ok (.iconst 0, 1) := by decide +kernel
theorem dX8_parseSetup_68 : decode cX8_parseSetup 68 = .ok (.ldc 170, 2) := by decide +kernel
theorem dX8_parseSetup_70 : decode cX8_parseSetup 70 = .ok (.invokevirtual 175, 3) := by decide +kernel
theorem dX8_parseSetup_73 : decode cX8_parseSetup 73 = .ok (.aload_n 0, 1) := by decide +kernel
theorem dX8_parseSetup_74 : decode cX8_parseSetup 74 = .ok (.iload_n 1, 1) := by decide +kernel
theorem dX8_parseSetup_75 : decode cX8_parseSetup 75 = .ok (.iload_n 2, 1) := by decide +kernel
theorem dX8_parseSetup_76 : decode cX8_parseSetup 76 = .ok (.iconst 1, 1) := by decide +kernel
theorem dX8_parseSetup_77 : decode cX8_parseSetup 77 = .ok (.invokestatic 171, 3) := by decide +kernel
theorem dX8_parseSetup_80 : decode cX8_parseSetup 80 = .ok (.iconst 0, 1) := by decide +kernel
theorem dX8_parseSetup_81 : decode cX8_parseSetup 81 = .ok (.ldc 170, 2) := by decide +kernel
theorem dX8_parseSetup_83 : decode cX8_parseSetup 83 = .ok (.invokevirtual 175, 3) := by decide +kernel
theorem dX8_parseSetup_86 : decode cX8_parseSetup 86 = .ok (.aload_n 0, 1) := by decide +kernel
theorem dX8_parseSetup_87 : decode cX8_parseSetup 87 = .ok (.iload_n 1, 1) := by decide +kernel
theorem dX8_parseSetup_88 : decode cX8_parseSetup 88 = .ok (.iload_n 2, 1) := by decide +kernel
theorem dX8_parseSetup_89 : decode cX8_parseSetup 89 = .ok (.iconst 2, 1) := by decide +kernel
theorem dX8_parseSetup_90 : decode cX8_parseSetup 90 = .ok (.invokestatic 171, 3) := by decide +kernel
theorem dX8_parseSetup_93 : decode cX8_parseSetup 93 = .ok (.iconst 1, 1) := by decide +kernel
theorem dX8_parseSetup_94 : decode cX8_parseSetup 94 = .ok (.bipush 100, 2) := by decide +kernel
theorem dX8_parseSetup_96 : decode cX8_parseSetup 96 = .ok (.invokevirtual 175, 3) := by decide +kernel
theorem dX8_parseSetup_99 : decode cX8_parseSetup 99 = .ok (.aload_n 0, 1) := by decide +kernel
theorem dX8_parseSetup_100 : decode cX8_parseSetup 100 = .ok (.iload_n 1, 1) := by decide +kernel
theorem dX8_parseSetup_101 : decode cX8_parseSetup 101 = .ok (.iload_n 2, 1) := by decide +kernel
theorem dX8_parseSetup_102 : decode cX8_parseSetup 102 = .ok (.iconst 3, 1) := by decide +kernel
theorem dX8_parseSetup_103 : decode cX8_parseSetup 103 = .ok (.invokestatic 171, 3) := by decide +kernel
theorem dX8_parseSetup_106 : decode cX8_parseSetup 106 = .ok (.iconst 1, 1) := by decide +kernel
theorem dX8_parseSetup_107 : decode cX8_parseSetup 107 = .ok (.bipush 100, 2) := by decide +kernel
theorem dX8_parseSetup_109 : decode cX8_parseSetup 109 = .ok (.invokevirtual 175, 3) := by decide +kernel
theorem dX8_parseSetup_112 : decode cX8_parseSetup 112 = .ok (.return_, 1) := by decide +kernel
theorem dX8_parseLine_0 : decode cX8_parseLine 0 = .ok (.aload_n 0, 1) := by decide +kernel
theorem dX8_parseLine_1 : decode cX8_parseLine 1 = .ok (.iconst 2, 1) := by decide +kernel
theorem dX8_parseLine_2 : decode cX8_parseLine 2 = .ok (.bipush 20, 2) := by decide +kernel
theorem dX8_parseLine_4 : decode cX8_parseLine 4 = .ok (.invokevirtual 155, 3) := by decide +kernel
theorem dX8_parseLine_7 : decode cX8_parseLine 7 = .ok (.istore_n 1, 1) := by decide +kernel
theorem dX8_parseLine_8 : decode cX8_parseLine 8 = .ok (.aload_n 0, 1) := by decide +kernel
theorem dX8_parseLine_9 : decode cX8_parseLine 9 = .ok (.iconst 1, 1) := by decide +kernel
theorem dX8_parseLine_10 : decode cX8_parseLine 10 = .ok (.invokevirtual 179, 3) := by decide +kernel
theorem dX8_parseLine_13 : decode cX8_parseLine 13 = .ok (.istore_n 2, 1) := by decide +kernel
theorem dX8_parseLine_14 : decode cX8_parseLine 14 = .ok (.aload_n 0, 1) := by decide +kernel
theorem dX8_parseLine_15 : decode cX8_parseLine 15 = .ok (.iconst 1, 1) := by decide +kernel
theorem dX8_parseLine_16 : decode cX8_parseLine 16 = .ok (.invokevirtual 151, 3) := by decide +kernel
theorem dX8_parseLine_19 : decode cX8_parseLine 19 = .ok (.istore_n 3, 1) := by decide +kernel
theorem dX8_parseLine_20 : decode cX8_parseLine 20 = .ok (.aload_n 0, 1) := by decide +kernel
theorem dX8_parseLine_21 : decode cX8_parseLine 21 = .ok (.iload_n 3, 1) := by decide +kernel
theorem dX8_parseLine_22 : decode cX8_parseLine 22 = .ok (.iload_n 2, 1) := by decide +kernel
theorem dX8_parseLine_23 : decode cX8_parseLine 23 = .ok (.if_icmp .eq 7, 3) := by decide +kernel
theorem dX8_parseLine_26 : decode cX8_parseLine 26 = .ok (.iconst 1, 1) := by decide +kernel
theorem dX8_parseLine_27 : decode cX8_parseLine 27 = .ok (.goto 4, 3) := by decide +kernel
theorem dX8_parseLine_30 : decode cX8_parseLine 30 = .ok (.iconst 0, 1) := by decide +kernel
theorem dX8_parseLine_31 : decode cX8_parseLine 31 = .ok (.bipush (-14), 2) := by decide +kernel
theorem dX8_parseLine_33 : decode cX8_parseLine 33 = .ok (.invokevirtual 119, 3) := by decide +kernel
theorem dX8_parseLine_36 : decode cX8_parseLine 36 = .ok (.aload_n 0, 1) := by decide +kernel
theorem dX8_parseLine_37 : decode cX8_parseLine 37 = .ok (.invokevirtual 123, 3) := by decide +kernel
theorem dX8_parseLine_40 : decode cX8_parseLine 40 = .ok (.aload_n 0, 1) := by decide +kernel
theorem dX8_parseLine_41 : decode cX8_parseLine 41 = .ok (.iconst 0, 1) := by decide +kernel
theorem dX8_parseLine_42 : decode cX8_parseLine 42 = .ok (.invokevirtual 179, 3) := by decide +kernel
theorem dX8_parseLine_45 : decode cX8_parseLine 45 = .ok (.istore 4, 2) := by decide +kernel
theorem dX8_parseLine_47 : decode cX8_parseLine 47 = .ok (.iconst 0, 1) := by decide +kernel
theorem dX8_parseLine_48 : decode cX8_parseLine 48 = .ok (.istore 5, 2) := by decide +kernel
theorem dX8_parseLine_50 : decode cX8_parseLine 50 = .ok (.aload_n 0, 1) := by decide +kernel
theorem dX8_parseLine_51 : decode cX8_parseLine 51 = .ok (.getfield 113, 3) := by decide +kernel
theorem dX8_parseLine_54 : decode cX8_parseLine 54 = .ok (.ifCond .ne 29, 3) := by decide +kernel
theorem dX8_parseLine_57 : decode cX8_parseLine 57 = .ok (.iload 5, 2) := by decide +kernel
theorem dX8_parseLine_59 : decode cX8_parseLine 59 = .ok (.ifCond .eq 11, 3) := by decide +kernel
theorem dX8_parseLine_62 : decode cX8_parseLine 62 = .ok (.aload_n 0, 1) := by decide +kernel
theorem dX8_parseLine_63 : decode cX8_parseLine 63 = .ok (.getfield 104, 3) := by decide +kernel
theorem dX8_parseLine_66 : decode cX8_parseLine 66 = .ok (.iconst 3, 1) := by decide +kernel
theorem dX8_parseLine_67 : decode cX8_parseLine 67 = .ok (.if_icmp .eq 16, 3) := by decide +kernel
theorem dX8_parseLine_70 : decode cX8_parseLine 70 = .ok (.aload_n 0, 1) := by decide +kernel
theorem dX8_parseLine_71 : decode cX8_parseLine 71 = .ok (.iload_n 1, 1) := by decide +kernel
theorem dX8_parseLine_72 : decode cX8_parseLine 72 = .ok (.iload 5, 2) := by decide +kernel
theorem dX8_parseLine_74 : decode cX8_parseLine 74 = .ok (.invokevirtual 182, 3) := by decide +kernel
theorem dX8_parseLine_77 : decode cX8_parseLine 77 = .ok (.iinc 5 1, 3) := by decide +kernel
theorem dX8_parseLine_80 : decode cX8_parseLine 80 = .ok (.goto (-30), 3) := by decide +kernel
theorem dX8_parseLine_83 : decode cX8_parseLine 83 = .ok (.aload_n 0, 1) := by decide +kernel
theorem dX8_parseLine_84 : decode cX8_parseLine 84 = .ok (.getfield 113, 3) := by decide +kernel
theorem dX8_parseLine_87 : decode cX8_parseLine 87 = .ok (.ifCond .eq 4, 3) := by decide +kernel
theorem dX8_parseLine_90 : decode cX8_parseLine 90 = .ok (.return_, 1) := by decide +kernel
theorem dX8_parseLine_91 : decode cX8_parseLine 91 = .ok (.aload_n 0, 1) := by decide +kernel
theorem dX8_parseLine_92 : decode cX8_parseLine 92 = .ok (.getfield 29, 3) := by decide +kernel
theorem dX8_parseLine_95 : decode cX8_parseLine 95 = .ok (.iconst 4, 1) := by decide +kernel
theorem dX8_parseLine_96 : decode cX8_parseLine 96 = .ok (.iload_n 1, 1) := by decide +kernel
theorem dX8_parseLine_97 : decode cX8_parseLine 97 = .ok (.iadd, 1) := by decide +kernel
theorem dX8_parseLine_98 : decode cX8_parseLine 98 = .ok (.iload_n 2, 1) := by decide +kernel
theorem dX8_parseLine_99 : decode cX8_parseLine 99 = .ok (.iastore, 1) := by decide +kernel
theorem dX8_parseLine_100 : decode cX8_parseLine 100 = .ok (.aload_n 0, 1) := by decide +kernel
theorem dX8_parseLine_101 : decode cX8_parseLine 101 = .ok (.getfield 29, 3) := by decide +kernel
theorem dX8_parseLine_104 : decode cX8_parseLine 104 = .ok (.bipush 24, 2) := by decide +kernel
theorem dX8_parseLine_106 : decode cX8_parseLine 106 = .ok (.iload_n 1, 1) := by decide +kernel
theorem dX8_parseLine_107 : decode cX8_parseLine 107 = .ok (.iadd, 1) := by decide +kernel
theorem dX8_parseLine_108 : decode cX8_parseLine 108 = .ok (.iload_n 3, 1) := by decide +kernel
theorem dX8_parseLine_109 : decode cX8_parseLine 109 = .ok (.iastore, 1) := by decide +kernel
theorem dX8_parseLine_110 : decode cX8_parseLine 110 = .ok (.aload_n 0, 1) := by decide +kernel
theorem dX8_parseLine_111 : decode cX8_parseLine 111 = .ok (.getfield 29, 3) := by decide +kernel
theorem dX8_parseLine_114 : decode cX8_parseLine 114 = .ok (.bipush 44, 2) := by decide +kernel
theorem dX8_parseLine_116 : decode cX8_parseLine 116 = .ok (.iload_n 1, 1) := by decide +kernel
theorem dX8_parseLine_117 : decode cX8_parseLine 117 = .ok (.iadd, 1) := by decide +kernel
theorem dX8_parseLine_118 : decode cX8_parseLine 118 = .ok (.iload 4, 2) := by decide +kernel
theorem dX8_parseLine_120 : decode cX8_parseLine 120 = .ok (.iastore, 1) := by decide +kernel
theorem dX8_parseLine_121 : decode cX8_parseLine 121 = .ok (.aload_n 0, 1) := by decide +kernel
theorem dX8_parseLine_122 : decode cX8_parseLine 122 = .ok (.getfield 13, 3) := by decide +kernel
theorem dX8_parseLine_125 : decode cX8_parseLine 125 = .ok (.bipush 22, 2) := by decide +kernel
theorem dX8_parseLine_127 : decode cX8_parseLine 127 = .ok (.iload_n 1, 1) := by decide +kernel
theorem dX8_parseLine_128 : decode cX8_parseLine 128 = .ok (.iadd, 1) := by decide +kernel
theorem dX8_parseLine_129 : decode cX8_parseLine 129 = .ok (.iconst 1, 1) := by decide +kernel
theorem dX8_parseLine_130 : decode cX8_parseLine 130 = .ok (.iastore, 1) := by decide +kernel
theorem dX8_parseLine_131 : decode cX8_parseLine 131 = .ok (.aload_n 0, 1) := by decide +kernel
theorem dX8_parseLine_132 : decode cX8_parseLine 132 = .ok (.getfield 13, 3) := by decide +kernel
theorem dX8_parseLine_135 : decode cX8_parseLine 135 = .ok (.bipush 42, 2) := by decide +kernel
theorem dX8_parseLine_137 : decode cX8_parseLine 137 = .ok (.iload_n 1, 1) := by decide +kernel
theorem dX8_parseLine_138 : decode cX8_parseLine 138 = .ok (.iadd, 1) := by decide +kernel
theorem dX8_parseLine_139 : decode cX8_parseLine 139 = .ok (.iload 5, 2) := by decide +kernel
theorem dX8_parseLine_141 : decode cX8_parseLine 141 = .ok (.iastore, 1) := by decide +kernel
theorem dX8_parseLine_142 : decode cX8_parseLine 142 = .ok (.aload_n 0, 1) := by decide +kernel
theorem dX8_parseLine_143 : decode cX8_parseLine 143 = .ok (.getfield 29, 3) := by decide +kernel
theorem dX8_parseLine_146 : decode cX8_parseLine 146 = .ok (.iconst 2, 1) := by decide +kernel
theorem dX8_parseLine_147 : decode cX8_parseLine 147 = .ok (.dup2, 1) := by decide +kernel
theorem dX8_parseLine_148 : decode cX8_parseLine 148 = .ok (.iaload, 1) := by decide +kernel
theorem dX8_parseLine_149 : decode cX8_parseLine 149 = .ok (.iconst 1, 1) := by decide +kernel
theorem dX8_parseLine_150 : decode cX8_parseLine 150 = .ok (.iadd, 1) := by decide +kernel
theorem dX8_parseLine_151 : decode cX8_parseLine 151 = .ok (.iastore, 1) := by decide +kernel
theorem dX8_parseLine_152 : decode cX8_parseLine 152 = .ok (.return_, 1) := by decide +kernel
theorem dX8_parseTest_0 : decode cX8_parseTest 0 = .ok (.aload_n 0, 1) := by decide +kernel
theorem dX8_parseTest_1 : decode cX8_parseTest 1 = .ok (.iconst 3, 1) := by decide +kernel
theorem dX8_parseTest_2 : decode cX8_parseTest 2 = .ok (.bipush 6, 2) := by decide +kernel
theorem dX8_parseTest_4 : decode cX8_parseTest 4 = .ok (.invokevirtual 155, 3) := by decide +kernel
theorem dX8_parseTest_7 : decode cX8_parseTest 7 = .ok (.istore_n 1, 1) := by decide +kernel
theorem dX8_parseTest_8 : decode cX8_parseTest 8 = .ok (.aload_n 0, 1) := by decide +kernel
theorem dX8_parseTest_9 : decode cX8_parseTest 9 = .ok (.iconst 0, 1) := by decide +kernel
theorem dX8_parseTest_10 : decode cX8_parseTest 10 = .ok (.invokevirtual 179, 3) := by decide +kernel
theorem dX8_parseTest_13 : decode cX8_parseTest 13 = .ok (.istore_n 2, 1) := by decide +kernel
theorem dX8_parseTest_14 : decode cX8_parseTest 14 = .ok (.bipush 64, 2) := by decide +kernel
theorem dX8_parseTest_16 : decode cX8_parseTest 16 = .ok (.bipush 9, 2) := by decide +kernel
theorem dX8_parseTest_18 : decode cX8_parseTest 18 = .ok (.iload_n 1, 1) := by decide +kernel
theorem dX8_parseTest_19 : decode cX8_parseTest 19 = .ok (.bipush 6, 2) := by decide +kernel
theorem dX8_parseTest_21 : decode cX8_parseTest 21 = .ok (.if_icmp .ge 7, 3) := by decide +kernel
theorem dX8_parseTest_24 : decode cX8_parseTest 24 = .ok (.iload_n 1, 1) := by decide +kernel
theorem dX8_parseTest_25 : decode cX8_parseTest 25 = .ok (.goto 4, 3) := by decide +kernel
theorem dX8_parseTest_28 : decode cX8_parseTest 28 = .ok (.iconst 0, 1) := by decide +kernel
theorem dX8_parseTest_29 : decode cX8_parseTest 29 = .ok (.imul, 1) := by decide +kernel
theorem dX8_parseTest_30 : decode cX8_parseTest 30 = .ok (.iadd, 1) := by decide +kernel
theorem dX8_parseTest_31 : decode cX8_parseTest 31 = .ok (.istore_n 3, 1) := by decide +kernel
theorem dX8_parseTest_32 : decode cX8_parseTest 32 = .ok (.aload_n 0, 1) := by decide +kernel
theorem dX8_parseTest_33 : decode cX8_parseTest 33 = .ok (.getfield 113, 3) := by decide +kernel
theorem dX8_parseTest_36 : decode cX8_parseTest 36 = .ok (.ifCond .eq 4, 3) := by decide +kernel
theorem dX8_parseTest_39 : decode cX8_parseTest 39 = .ok (.return_, 1) := by decide +kernel
theorem dX8_parseTest_40 : decode cX8_parseTest 40 = .ok (.aload_n 0, 1) := by decide +kernel
theorem dX8_parseTest_41 : decode cX8_parseTest 41 = .ok (.getfield 29, 3) := by decide +kernel
theorem dX8_parseTest_44 : decode cX8_parseTest 44 = .ok (.iload_n 3, 1) := by decide +kernel
theorem dX8_parseTest_45 : decode cX8_parseTest 45 = .ok (.iload_n 2, 1) := by decide +kernel
theorem dX8_parseTest_46 : decode cX8_parseTest 46 = .ok (.iastore, 1) := by decide +kernel
theorem dX8_parseTest_47 : decode cX8_parseTest 47 = .ok (.iconst 0, 1) := by decide +kernel
theorem dX8_parseTest_48 : decode cX8_parseTest 48 = .ok (.istore 4, 2) := by decide +kernel
theorem dX8_parseTest_50 : decode cX8_parseTest 50 = .ok (.iload 4, 2) := by decide +kernel
theorem dX8_parseTest_52 : decode cX8_parseTest 52 = .ok (.bipush 8, 2) := by decide +kernel
theorem dX8_parseTest_54 : decode cX8_parseTest 54 = .ok (.if_icmp .ge 73, 3) := by decide +kernel
theorem dX8_parseTest_57 : decode cX8_parseTest 57 = .ok (.iload 4, 2) := by decide +kernel
theorem dX8_parseTest_59 : decode cX8_parseTest 59 = .ok (.iconst 4, 1) := by decide +kernel
theorem dX8_parseTest_60 : decode cX8_parseTest 60 = .ok (.irem, 1) := by decide +kernel
theorem dX8_parseTest_61 : decode cX8_parseTest 61 = .ok (.iconst 2, 1) := by decide +kernel
theorem dX8_parseTest_62 : decode cX8_parseTest 62 = .ok (.if_icmp .ge 7, 3) := by decide +kernel
theorem dX8_parseTest_65 : decode cX8_parseTest 65 = .ok (.iconst 1, 1) := by decide +kernel
theorem dX8_parseTest_66 : decode cX8_parseTest 66 = .ok (.goto 4, 3) := by decide +kernel
theorem dX8_parseTest_69 : decode cX8_parseTest 69 = .ok (.iconst 0, 1) := by decide +kernel
theorem dX8_parseTest_70 : decode cX8_parseTest 70 = .ok (.istore 5, 2) := by decide +kernel
theorem dX8_parseTest_72 : decode cX8_parseTest 72 = .ok (.aload_n 0, 1) := by decide +kernel
theorem dX8_parseTest_73 : decode cX8_parseTest 73 = .ok (.iload 5, 2) := by decide +kernel
theorem dX8_parseTest_75 : decode cX8_parseTest 75 = .ok (.ifCond .eq 7, 3) := by decide +kernel
theorem dX8_parseTest_78 : decode cX8_parseTest 78 = .ok (.iconst 0, 1) := by decide +kernel
theorem dX8_parseTest_79 : decode cX8_parseTest 79 = .ok (.goto 4, 3) := by decide +kernel
theorem dX8_parseTest_82 : decode cX8_parseTest 82 = .ok (.iconst 1, 1) := by decide +kernel
theorem dX8_parseTest_83 : decode cX8_parseTest 83 = .ok (.iload 5, 2) := by decide +kernel
theorem dX8_parseTest_85 : decode cX8_parseTest 85 = .ok (.ifCond .eq 8, 3) := by decide +kernel
theorem dX8_parseTest_88 : decode cX8_parseTest 88 = .ok (.ldc 170, 2) := by decide +kernel
theorem dX8_parseTest_90 : decode cX8_parseTest 90 = .ok (.goto 5, 3) := by decide +kernel
theorem dX8_parseTest_93 : decode cX8_parseTest 93 = .ok (.bipush 100, 2) := by decide +kernel
theorem dX8_parseTest_95 : decode cX8_parseTest 95 = .ok (.invokevirtual 162, 3) := by decide +kernel
theorem dX8_parseTest_98 : decode cX8_parseTest 98 = .ok (.istore 6, 2) := by decide +kernel
theorem dX8_parseTest_100 : decode cX8_parseTest 100 = .ok (.aload_n 0, 1) := by decide +kernel
theorem dX8_parseTest_101 : decode cX8_parseTest 101 = .ok (.getfield 113, 3) := by decide +kernel
theorem dX8_parseTest_104 : decode cX8_parseTest 104 = .ok (.ifCond .eq 4, 3) := by decide +kernel
theorem dX8_parseTest_107 : decode cX8_parseTest 107 = .ok (.return_, 1) := by decide +kernel
theorem dX8_parseTest_108 : decode cX8_parseTest 108 = .ok (.aload_n 0, 1) := by decide +kernel
theorem dX8_parseTest_109 : decode cX8_parseTest 109 = .ok (.getfield 29, 3) := by decide +kernel
theorem dX8_parseTest_112 : decode cX8_parseTest 112 = .ok (.iload_n 3, 1) := by decide +kernel
theorem dX8_parseTest_113 : decode cX8_parseTest 113 = .ok (.iconst 1, 1) := by decide +kernel
theorem dX8_parseTest_114 : decode cX8_parseTest 114 = .ok (.iadd, 1) := by decide +kernel
theorem dX8_parseTest_115 : decode cX8_parseTest 115 = .ok (.iload 4, 2) := by decide +kernel
theorem dX8_parseTest_117 : decode cX8_parseTest 117 = .ok (.iadd, 1) := by decide +kernel
theorem dX8_parseTest_118 : decode cX8_parseTest 118 = .ok (.iload 6, 2) := by decide +kernel
theorem dX8_parseTest_120 : decode cX8_parseTest 120 = .ok (.iastore, 1) := by decide +kernel
theorem dX8_parseTest_121 : decode cX8_parseTest 121 = .ok (.iinc 4 1, 3) := by decide +kernel
theorem dX8_parseTest_124 : decode cX8_parseTest 124 = .ok (.goto (-74), 3) := by decide +kernel
theorem dX8_parseTest_127 : decode cX8_parseTest 127 = .ok (.aload_n 0, 1) := by decide +kernel
theorem dX8_parseTest_128 : decode cX8_parseTest 128 = .ok (.getfield 29, 3) := by decide +kernel
theorem dX8_parseTest_131 : decode cX8_parseTest 131 = .ok (.iconst 3, 1) := by decide +kernel
theorem dX8_parseTest_132 : decode cX8_parseTest 132 = .ok (.dup2, 1) := by decide +kernel
theorem dX8_parseTest_133 : decode cX8_parseTest 133 = .ok (.iaload, 1) := by decide +kernel
theorem dX8_parseTest_134 : decode cX8_parseTest 134 = .ok (.iconst 1, 1) := by decide +kernel
theorem dX8_parseTest_135 : decode cX8_parseTest 135 = .ok (.iadd, 1) := by decide +kernel
theorem dX8_parseTest_136 : decode cX8_parseTest 136 = .ok (.iastore, 1) := by decide +kernel
theorem dX8_parseTest_137 : decode cX8_parseTest 137 = .ok (.return_, 1) := by decide +kernel
theorem dX8_settingHere_0 : decode cX8_settingHere 0 = .ok (.aload_n 0, 1) := by decide +kernel
theorem dX8_settingHere_1 : decode cX8_settingHere 1 = .ok (.ldc2_w 186, 3) := by decide +kernel
theorem dX8_settingHere_4 : decode cX8_settingHere 4 = .ok (.invokevirtual 165, 3) := by decide +kernel
theorem dX8_settingHere_7 : decode cX8_settingHere 7 = .ok (.ifCond .eq 5, 3) := by decide +kernel
theorem dX8_settingHere_10 : decode cX8_settingHere 10 = .ok (.iconst 0, 1) := by decide +kernel
theorem dX8_settingHere_11 : decode cX8_settingHere 11 = .ok (.ireturn, 1) := by decide +kernel
theorem dX8_settingHere_12 : decode cX8_settingHere 12 = .ok (.aload_n 0, 1) := by decide +kernel
theorem dX8_settingHere_13 : decode cX8_settingHere 13 = .ok (.ldc2_w 138, 3) := by decide +kernel
theorem dX8_settingHere_16 : decode cX8_settingHere 16 = .ok (.invokevirtual 165, 3) := by decide +kernel
theorem dX8_settingHere_19 : decode cX8_settingHere 19 = .ok (.ifCond .eq 5, 3) := by decide +kernel
theorem dX8_settingHere_22 : decode cX8_settingHere 22 = .ok (.iconst 1, 1) := by decide +kernel
theorem dX8_settingHere_23 : decode cX8_settingHere 23 = .ok (.ireturn, 1) := by decide +kernel
theorem dX8_settingHere_24 : decode cX8_settingHere 24 = .ok (.aload_n 0, 1) := by decide +kernel
theorem dX8_settingHere_25 : decode cX8_settingHere 25 = .ok (.ldc2_w 188, 3) := by decide +kernel
theorem dX8_settingHere_28 : decode cX8_settingHere 28 = .ok (.invokevirtual 165, 3) := by decide +kernel
theorem dX8_settingHere_31 : decode cX8_settingHere 31 = .ok (.ifCond .eq 7, 3) := by decide +kernel
theorem dX8_settingHere_34 : decode cX8_settingHere 34 = .ok (.iconst 2, 1) := by decide +kernel
theorem dX8_settingHere_35 : decode cX8_settingHere 35 = .ok (.goto 4, 3) := by decide +kernel
theorem dX8_settingHere_38 : decode cX8_settingHere 38 = .ok (.iconst (-1), 1) := by decide +kernel
theorem dX8_settingHere_39 : decode cX8_settingHere 39 = .ok (.ireturn, 1) := by decide +kernel
theorem dX8_parseSetting_0 : decode cX8_parseSetting 0 = .ok (.aload_n 0, 1) := by decide +kernel
theorem dX8_parseSetting_1 : decode cX8_parseSetting 1 = .ok (.invokevirtual 116, 3) := by decide +kernel
theorem dX8_parseSetting_4 : decode cX8_parseSetting 4 = .ok (.aload_n 0, 1) := by decide +kernel
theorem dX8_parseSetting_5 : decode cX8_parseSetting 5 = .ok (.invokevirtual 190, 3) := by decide +kernel
theorem dX8_parseSetting_8 : decode cX8_parseSetting 8 = .ok (.istore_n 1, 1) := by decide +kernel
theorem dX8_parseSetting_9 : decode cX8_parseSetting 9 = .ok (.aload_n 0, 1) := by decide +kernel
theorem dX8_parseSetting_10 : decode cX8_parseSetting 10 = .ok (.iload_n 1, 1) := by decide +kernel
theorem dX8_parseSetting_11 : decode cX8_parseSetting 11 = .ok (.ifCond .lt 7, 3) := by decide +kernel
theorem dX8_parseSetting_14 : decode cX8_parseSetting 14 = .ok (.iconst 1, 1) := by decide +kernel
theorem dX8_parseSetting_15 : decode cX8_parseSetting 15 = .ok (.goto 4, 3) := by decide +kernel
theorem dX8_parseSetting_18 : decode cX8_parseSetting 18 = .ok (.iconst 0, 1) := by decide +kernel
theorem dX8_parseSetting_19 : decode cX8_parseSetting 19 = .ok (.bipush (-11), 2) := by decide +kernel
theorem dX8_parseSetting_21 : decode cX8_parseSetting 21 = .ok (.invokevirtual 119, 3) := by decide +kernel
theorem dX8_parseSetting_24 : decode cX8_parseSetting 24 = .ok (.aload_n 0, 1) := by decide +kernel
theorem dX8_parseSetting_25 : decode cX8_parseSetting 25 = .ok (.getfield 113, 3) := by decide +kernel
theorem dX8_parseSetting_28 : decode cX8_parseSetting 28 = .ok (.ifCond .eq 4, 3) := by decide +kernel
theorem dX8_parseSetting_31 : decode cX8_parseSetting 31 = .ok (.return_, 1) := by decide +kernel
theorem dX8_parseSetting_32 : decode cX8_parseSetting 32 = .ok (.aload_n 0, 1) := by decide +kernel
theorem dX8_parseSetting_33 : decode cX8_parseSetting 33 = .ok (.aload_n 0, 1) := by decide +kernel
theorem dX8_parseSetting_34 : decode cX8_parseSetting 34 = .ok (.getfield 193, 3) := by decide +kernel
theorem dX8_parseSetting_37 : decode cX8_parseSetting 37 = .ok (.iload_n 1, 1) := by decide +kernel
theorem dX8_parseSetting_38 : decode cX8_parseSetting 38 = .ok (.invokestatic 196, 3) := by decide +kernel
theorem dX8_parseSetting_41 : decode cX8_parseSetting 41 = .ok (.ifCond .ne 7, 3) := by decide +kernel
theorem dX8_parseSetting_44 : decode cX8_parseSetting 44 = .ok (.iconst 1, 1) := by decide +kernel
theorem dX8_parseSetting_45 : decode cX8_parseSetting 45 = .ok (.goto 4, 3) := by decide +kernel
theorem dX8_parseSetting_48 : decode cX8_parseSetting 48 = .ok (.iconst 0, 1) := by decide +kernel
theorem dX8_parseSetting_49 : decode cX8_parseSetting 49 = .ok (.bipush (-14), 2) := by decide +kernel
theorem dX8_parseSetting_51 : decode cX8_parseSetting 51 = .ok (.invokevirtual 119, 3) := by decide +kernel
theorem dX8_parseSetting_54 : decode cX8_parseSetting 54 = .ok (.aload_n 0, 1) := by decide +kernel
theorem dX8_parseSetting_55 : decode cX8_parseSetting 55 = .ok (.dup, 1) := by decide +kernel
theorem dX8_parseSetting_56 : decode cX8_parseSetting 56 = .ok (.getfield 193, 3) := by decide +kernel
theorem dX8_parseSetting_59 : decode cX8_parseSetting 59 = .ok (.iconst 1, 1) := by decide +kernel
theorem dX8_parseSetting_60 : decode cX8_parseSetting 60 = .ok (.iload_n 1, 1) := by decide +kernel
theorem dX8_parseSetting_61 : decode cX8_parseSetting 61 = .ok (.ishl, 1) := by decide +kernel
theorem dX8_parseSetting_62 : decode cX8_parseSetting 62 = .ok (.ior, 1) := by decide +kernel
theorem dX8_parseSetting_63 : decode cX8_parseSetting 63 = .ok (.putfield 193, 3) := by decide +kernel
theorem dX8_parseSetting_66 : decode cX8_parseSetting 66 = .ok (.aload_n 0, 1) := by decide +kernel
theorem dX8_parseSetting_67 : decode cX8_parseSetting 67 = .ok (.invokevirtual 123, 3) := by decide +kernel
theorem dX8_parseSetting_70 : decode cX8_parseSetting 70 = .ok (.aload_n 0, 1) := by decide +kernel
theorem dX8_parseSetting_71 : decode cX8_parseSetting 71 = .ok (.getfield 113, 3) := by decide +kernel
theorem dX8_parseSetting_74 : decode cX8_parseSetting 74 = .ok (.ifCond .ne 16, 3) := by decide +kernel
theorem dX8_parseSetting_77 : decode cX8_parseSetting 77 = .ok (.aload_n 0, 1) := by decide +kernel
theorem dX8_parseSetting_78 : decode cX8_parseSetting 78 = .ok (.iload_n 1, 1) := by decide +kernel
theorem dX8_parseSetting_79 : decode cX8_parseSetting 79 = .ok (.iload_n 1, 1) := by decide +kernel
theorem dX8_parseSetting_80 : decode cX8_parseSetting 80 = .ok (.invokestatic 200, 3) := by decide +kernel
theorem dX8_parseSetting_83 : decode cX8_parseSetting 83 = .ok (.iload_n 1, 1) := by decide +kernel
theorem dX8_parseSetting_84 : decode cX8_parseSetting 84 = .ok (.invokestatic 203, 3) := by decide +kernel
theorem dX8_parseSetting_87 : decode cX8_parseSetting 87 = .ok (.invokevirtual 175, 3) := by decide +kernel
theorem dX8_parseSetting_90 : decode cX8_parseSetting 90 = .ok (.return_, 1) := by decide +kernel
theorem dX8_parseStatement_0 : decode cX8_parseStatement 0 = .ok (.aload_n 0, 1) := by decide +kernel
theorem dX8_parseStatement_1 : decode cX8_parseStatement 1 = .ok (.ldc2_w 126, 3) := by decide +kernel
theorem dX8_parseStatement_4 : decode cX8_parseStatement 4 = .ok (.invokevirtual 165, 3) := by decide +kernel
theorem dX8_parseStatement_7 : decode cX8_parseStatement 7 = .ok (.ifCond .eq 10, 3) := by decide +kernel
theorem dX8_parseStatement_10 : decode cX8_parseStatement 10 = .ok (.aload_n 0, 1) := by decide +kernel
theorem dX8_parseStatement_11 : decode cX8_parseStatement 11 = .ok (.invokevirtual 206, 3) := by decide +kernel
theorem dX8_parseStatement_14 : decode cX8_parseStatement 14 = .ok (.goto 78, 3) := by decide +kernel
theorem dX8_parseStatement_17 : decode cX8_parseStatement 17 = .ok (.aload_n 0, 1) := by decide +kernel
theorem dX8_parseStatement_18 : decode cX8_parseStatement 18 = .ok (.ldc2_w 130, 3) := by decide +kernel
theorem dX8_parseStatement_21 : decode cX8_parseStatement 21 = .ok (.invokevirtual 165, 3) := by decide +kernel
theorem dX8_parseStatement_24 : decode cX8_parseStatement 24 = .ok (.ifCond .eq 10, 3) := by decide +kernel
theorem dX8_parseStatement_27 : decode cX8_parseStatement 27 = .ok (.aload_n 0, 1) := by decide +kernel
theorem dX8_parseStatement_28 : decode cX8_parseStatement 28 = .ok (.invokevirtual 209, 3) := by decide +kernel
theorem dX8_parseStatement_31 : decode cX8_parseStatement 31 = .ok (.goto 61, 3) := by decide +kernel
theorem dX8_parseStatement_34 : decode cX8_parseStatement 34 = .ok (.aload_n 0, 1) := by decide +kernel
theorem dX8_parseStatement_35 : decode cX8_parseStatement 35 = .ok (.ldc2_w 132, 3) := by decide +kernel
theorem dX8_parseStatement_38 : decode cX8_parseStatement 38 = .ok (.invokevirtual 165, 3) := by decide +kernel
theorem dX8_parseStatement_41 : decode cX8_parseStatement 41 = .ok (.ifCond .eq 10, 3) := by decide +kernel
theorem dX8_parseStatement_44 : decode cX8_parseStatement 44 = .ok (.aload_n 0, 1) := by decide +kernel
theorem dX8_parseStatement_45 : decode cX8_parseStatement 45 = .ok (.invokevirtual 212, 3) := by decide +kernel
theorem dX8_parseStatement_48 : decode cX8_parseStatement 48 = .ok (.goto 44, 3) := by decide +kernel
theorem dX8_parseStatement_51 : decode cX8_parseStatement 51 = .ok (.aload_n 0, 1) := by decide +kernel
theorem dX8_parseStatement_52 : decode cX8_parseStatement 52 = .ok (.ldc2_w 134, 3) := by decide +kernel
theorem dX8_parseStatement_55 : decode cX8_parseStatement 55 = .ok (.invokevirtual 165, 3) := by decide +kernel
theorem dX8_parseStatement_58 : decode cX8_parseStatement 58 = .ok (.ifCond .eq 10, 3) := by decide +kernel
theorem dX8_parseStatement_61 : decode cX8_parseStatement 61 = .ok (.aload_n 0, 1) := by decide +kernel
theorem dX8_parseStatement_62 : decode cX8_parseStatement 62 = .ok (.invokevirtual 215, 3) := by decide +kernel
theorem dX8_parseStatement_65 : decode cX8_parseStatement 65 = .ok (.goto 27, 3) := by decide +kernel
theorem dX8_parseStatement_68 : decode cX8_parseStatement 68 = .ok (.aload_n 0, 1) := by decide +kernel
theorem dX8_parseStatement_69 : decode cX8_parseStatement 69 = .ok (.ldc2_w 136, 3) := by decide +kernel
theorem dX8_parseStatement_72 : decode cX8_parseStatement 72 = .ok (.invokevirtual 165, 3) := by decide +kernel
theorem dX8_parseStatement_75 : decode cX8_parseStatement 75 = .ok (.ifCond .eq 10, 3) := by decide +kernel
theorem dX8_parseStatement_78 : decode cX8_parseStatement 78 = .ok (.aload_n 0, 1) := by decide +kernel
theorem dX8_parseStatement_79 : decode cX8_parseStatement 79 = .ok (.invokevirtual 218, 3) := by decide +kernel
theorem dX8_parseStatement_82 : decode cX8_parseStatement 82 = .ok (.goto 10, 3) := by decide +kernel
theorem dX8_parseStatement_85 : decode cX8_parseStatement 85 = .ok (.aload_n 0, 1) := by decide +kernel
theorem dX8_parseStatement_86 : decode cX8_parseStatement 86 = .ok (.iconst 0, 1) := by decide +kernel
theorem dX8_parseStatement_87 : decode cX8_parseStatement 87 = .ok (.bipush (-11), 2) := by decide +kernel
theorem dX8_parseStatement_89 : decode cX8_parseStatement 89 = .ok (.invokevirtual 119, 3) := by decide +kernel
theorem dX8_parseStatement_92 : decode cX8_parseStatement 92 = .ok (.return_, 1) := by decide +kernel
theorem dX8_reset_0 : decode cX8_reset 0 = .ok (.iconst 0, 1) := by decide +kernel
theorem dX8_reset_1 : decode cX8_reset 1 = .ok (.istore_n 1, 1) := by decide +kernel
theorem dX8_reset_2 : decode cX8_reset 2 = .ok (.iload_n 1, 1) := by decide +kernel
theorem dX8_reset_3 : decode cX8_reset 3 = .ok (.sipush 703, 3) := by decide +kernel
theorem dX8_reset_6 : decode cX8_reset 6 = .ok (.if_icmp .ge 13, 3) := by decide +kernel
theorem dX8_reset_9 : decode cX8_reset 9 = .ok (.aload_n 0, 1) := by decide +kernel
theorem dX8_reset_10 : decode cX8_reset 10 = .ok (.iload_n 1, 1) := by decide +kernel
theorem dX8_reset_11 : decode cX8_reset 11 = .ok (.iconst 0, 1) := by decide +kernel
theorem dX8_reset_12 : decode cX8_reset 12 = .ok (.iastore, 1) := by decide +kernel
theorem dX8_reset_13 : decode cX8_reset 13 = .ok (.iinc 1 1, 3) := by decide +kernel
theorem dX8_reset_16 : decode cX8_reset 16 = .ok (.goto (-14), 3) := by decide +kernel
theorem dX8_reset_19 : decode cX8_reset 19 = .ok (.aload_n 0, 1) := by decide +kernel
theorem dX8_reset_20 : decode cX8_reset 20 = .ok (.iconst 0, 1) := by decide +kernel
theorem dX8_reset_21 : decode cX8_reset 21 = .ok (.bipush 40, 2) := by decide +kernel
theorem dX8_reset_23 : decode cX8_reset 23 = .ok (.iastore, 1) := by decide +kernel
theorem dX8_reset_24 : decode cX8_reset 24 = .ok (.aload_n 0, 1) := by decide +kernel
theorem dX8_reset_25 : decode cX8_reset 25 = .ok (.iconst 1, 1) := by decide +kernel
theorem dX8_reset_26 : decode cX8_reset 26 = .ok (.bipush 60, 2) := by decide +kernel
theorem dX8_reset_28 : decode cX8_reset 28 = .ok (.iastore, 1) := by decide +kernel
theorem dX8_reset_29 : decode cX8_reset 29 = .ok (.aload_n 0, 1) := by decide +kernel
theorem dX8_reset_30 : decode cX8_reset 30 = .ok (.iconst 2, 1) := by decide +kernel
theorem dX8_reset_31 : decode cX8_reset 31 = .ok (.bipush 20, 2) := by decide +kernel
theorem dX8_reset_33 : decode cX8_reset 33 = .ok (.iastore, 1) := by decide +kernel
theorem dX8_reset_34 : decode cX8_reset 34 = .ok (.iconst 0, 1) := by decide +kernel
theorem dX8_reset_35 : decode cX8_reset 35 = .ok (.istore_n 1, 1) := by decide +kernel
theorem dX8_reset_36 : decode cX8_reset 36 = .ok (.iload_n 1, 1) := by decide +kernel
theorem dX8_reset_37 : decode cX8_reset 37 = .ok (.bipush 16, 2) := by decide +kernel
theorem dX8_reset_39 : decode cX8_reset 39 = .ok (.if_icmp .ge 16, 3) := by decide +kernel
theorem dX8_reset_42 : decode cX8_reset 42 = .ok (.aload_n 0, 1) := by decide +kernel
theorem dX8_reset_43 : decode cX8_reset 43 = .ok (.bipush 6, 2) := by decide +kernel
theorem dX8_reset_45 : decode cX8_reset 45 = .ok (.iload_n 1, 1) := by decide +kernel
theorem dX8_reset_46 : decode cX8_reset 46 = .ok (.iadd, 1) := by decide +kernel
theorem dX8_reset_47 : decode cX8_reset 47 = .ok (.iconst (-1), 1) := by decide +kernel
theorem dX8_reset_48 : decode cX8_reset 48 = .ok (.iastore, 1) := by decide +kernel
theorem dX8_reset_49 : decode cX8_reset 49 = .ok (.iinc 1 1, 3) := by decide +kernel
theorem dX8_reset_52 : decode cX8_reset 52 = .ok (.goto (-16), 3) := by decide +kernel
theorem dX8_reset_55 : decode cX8_reset 55 = .ok (.return_, 1) := by decide +kernel
theorem dX8_load_0 : decode cX8_load 0 = .ok (.aload_n 0, 1) := by decide +kernel
theorem dX8_load_1 : decode cX8_load 1 = .ok (.iconst 0, 1) := by decide +kernel
theorem dX8_load_2 : decode cX8_load 2 = .ok (.putfield 68, 3) := by decide +kernel
theorem dX8_load_5 : decode cX8_load 5 = .ok (.iload_n 1, 1) := by decide +kernel
theorem dX8_load_6 : decode cX8_load 6 = .ok (.iconst 0, 1) := by decide +kernel
theorem dX8_load_7 : decode cX8_load 7 = .ok (.aload_n 0, 1) := by decide +kernel
theorem dX8_load_8 : decode cX8_load 8 = .ok (.getfield 77, 3) := by decide +kernel
theorem dX8_load_11 : decode cX8_load 11 = .ok (.invokestatic 107, 3) := by decide +kernel
theorem dX8_load_14 : decode cX8_load 14 = .ok (.ifCond .ne 6, 3) := by decide +kernel
theorem dX8_load_17 : decode cX8_load 17 = .ok (.bipush (-2), 2) := by decide +kernel
theorem dX8_load_19 : decode cX8_load 19 = .ok (.ireturn, 1) := by decide +kernel
theorem dX8_load_20 : decode cX8_load 20 = .ok (.aload_n 0, 1) := by decide +kernel
theorem dX8_load_21 : decode cX8_load 21 = .ok (.iload_n 1, 1) := by decide +kernel
theorem dX8_load_22 : decode cX8_load 22 = .ok (.putfield 87, 3) := by decide +kernel
theorem dX8_load_25 : decode cX8_load 25 = .ok (.aload_n 0, 1) := by decide +kernel
theorem dX8_load_26 : decode cX8_load 26 = .ok (.iconst 0, 1) := by decide +kernel
theorem dX8_load_27 : decode cX8_load 27 = .ok (.putfield 84, 3) := by decide +kernel
theorem dX8_load_30 : decode cX8_load 30 = .ok (.aload_n 0, 1) := by decide +kernel
theorem dX8_load_31 : decode cX8_load 31 = .ok (.iconst 0, 1) := by decide +kernel
theorem dX8_load_32 : decode cX8_load 32 = .ok (.putfield 113, 3) := by decide +kernel
theorem dX8_load_35 : decode cX8_load 35 = .ok (.aload_n 0, 1) := by decide +kernel
theorem dX8_load_36 : decode cX8_load 36 = .ok (.iconst (-1), 1) := by decide +kernel
theorem dX8_load_37 : decode cX8_load 37 = .ok (.putfield 36, 3) := by decide +kernel
theorem dX8_load_40 : decode cX8_load 40 = .ok (.aload_n 0, 1) := by decide +kernel
theorem dX8_load_41 : decode cX8_load 41 = .ok (.iconst 0, 1) := by decide +kernel
theorem dX8_load_42 : decode cX8_load 42 = .ok (.putfield 193, 3) := by decide +kernel
theorem dX8_load_45 : decode cX8_load 45 = .ok (.aload_n 0, 1) := by decide +kernel
theorem dX8_load_46 : decode cX8_load 46 = .ok (.iconst 0, 1) := by decide +kernel
theorem dX8_load_47 : decode cX8_load 47 = .ok (.putfield 221, 3) := by decide +kernel
theorem dX8_load_50 : decode cX8_load 50 = .ok (.aload_n 0, 1) := by decide +kernel
theorem dX8_load_51 : decode cX8_load 51 = .ok (.getfield 13, 3) := by decide +kernel
theorem dX8_load_54 : decode cX8_load 54 = .ok (.invokestatic 64, 3) := by decide +kernel
theorem dX8_load_57 : decode cX8_load 57 = .ok (.iconst 0, 1) := by decide +kernel
theorem dX8_load_58 : decode cX8_load 58 = .ok (.istore_n 2, 1) := by decide +kernel
theorem dX8_load_59 : decode cX8_load 59 = .ok (.iload_n 2, 1) := by decide +kernel
theorem dX8_load_60 : decode cX8_load 60 = .ok (.sipush 137, 3) := by decide +kernel
theorem dX8_load_63 : decode cX8_load 63 = .ok (.if_icmp .ge 16, 3) := by decide +kernel
theorem dX8_load_66 : decode cX8_load 66 = .ok (.aload_n 0, 1) := by decide +kernel
theorem dX8_load_67 : decode cX8_load 67 = .ok (.getfield 29, 3) := by decide +kernel
theorem dX8_load_70 : decode cX8_load 70 = .ok (.iload_n 2, 1) := by decide +kernel
theorem dX8_load_71 : decode cX8_load 71 = .ok (.iconst 0, 1) := by decide +kernel
theorem dX8_load_72 : decode cX8_load 72 = .ok (.iastore, 1) := by decide +kernel
theorem dX8_load_73 : decode cX8_load 73 = .ok (.iinc 2 1, 3) := by decide +kernel
theorem dX8_load_76 : decode cX8_load 76 = .ok (.goto (-17), 3) := by decide +kernel
theorem dX8_load_79 : decode cX8_load 79 = .ok (.aload_n 0, 1) := by decide +kernel
theorem dX8_load_80 : decode cX8_load 80 = .ok (.invokevirtual 116, 3) := by decide +kernel
theorem dX8_load_83 : decode cX8_load 83 = .ok (.aload_n 0, 1) := by decide +kernel
theorem dX8_load_84 : decode cX8_load 84 = .ok (.getfield 113, 3) := by decide +kernel
theorem dX8_load_87 : decode cX8_load 87 = .ok (.ifCond .ne 50, 3) := by decide +kernel
theorem dX8_load_90 : decode cX8_load 90 = .ok (.aload_n 0, 1) := by decide +kernel
theorem dX8_load_91 : decode cX8_load 91 = .ok (.getfield 104, 3) := by decide +kernel
theorem dX8_load_94 : decode cX8_load 94 = .ok (.ifCond .eq 43, 3) := by decide +kernel
theorem dX8_load_97 : decode cX8_load 97 = .ok (.aload_n 0, 1) := by decide +kernel
theorem dX8_load_98 : decode cX8_load 98 = .ok (.invokevirtual 224, 3) := by decide +kernel
theorem dX8_load_101 : decode cX8_load 101 = .ok (.aload_n 0, 1) := by decide +kernel
theorem dX8_load_102 : decode cX8_load 102 = .ok (.aload_n 0, 1) := by decide +kernel
theorem dX8_load_103 : decode cX8_load 103 = .ok (.getfield 104, 3) := by decide +kernel
theorem dX8_load_106 : decode cX8_load 106 = .ok (.iconst 3, 1) := by decide +kernel
theorem dX8_load_107 : decode cX8_load 107 = .ok (.if_icmp .ne 7, 3) := by decide +kernel
theorem dX8_load_110 : decode cX8_load 110 = .ok (.iconst 1, 1) := by decide +kernel
theorem dX8_load_111 : decode cX8_load 111 = .ok (.goto 4, 3) := by decide +kernel
theorem dX8_load_114 : decode cX8_load 114 = .ok (.iconst 0, 1) := by decide +kernel
theorem dX8_load_115 : decode cX8_load 115 = .ok (.bipush (-11), 2) := by decide +kernel
theorem dX8_load_117 : decode cX8_load 117 = .ok (.invokevirtual 119, 3) := by decide +kernel
theorem dX8_load_120 : decode cX8_load 120 = .ok (.aload_n 0, 1) := by decide +kernel
theorem dX8_load_121 : decode cX8_load 121 = .ok (.invokevirtual 123, 3) := by decide +kernel
theorem dX8_load_124 : decode cX8_load 124 = .ok (.aload_n 0, 1) := by decide +kernel
theorem dX8_load_125 : decode cX8_load 125 = .ok (.dup, 1) := by decide +kernel
theorem dX8_load_126 : decode cX8_load 126 = .ok (.getfield 221, 3) := by decide +kernel
theorem dX8_load_129 : decode cX8_load 129 = .ok (.iconst 1, 1) := by decide +kernel
theorem dX8_load_130 : decode cX8_load 130 = .ok (.iadd, 1) := by decide +kernel
theorem dX8_load_131 : decode cX8_load 131 = .ok (.putfield 221, 3) := by decide +kernel
theorem dX8_load_134 : decode cX8_load 134 = .ok (.goto (-51), 3) := by decide +kernel
theorem dX8_load_137 : decode cX8_load 137 = .ok (.aload_n 0, 1) := by decide +kernel
theorem dX8_load_138 : decode cX8_load 138 = .ok (.iconst 0, 1) := by decide +kernel
theorem dX8_load_139 : decode cX8_load 139 = .ok (.putfield 77, 3) := by decide +kernel
theorem dX8_load_142 : decode cX8_load 142 = .ok (.aload_n 0, 1) := by decide +kernel
theorem dX8_load_143 : decode cX8_load 143 = .ok (.getfield 113, 3) := by decide +kernel
theorem dX8_load_146 : decode cX8_load 146 = .ok (.ifCond .eq 8, 3) := by decide +kernel
theorem dX8_load_149 : decode cX8_load 149 = .ok (.aload_n 0, 1) := by decide +kernel
theorem dX8_load_150 : decode cX8_load 150 = .ok (.getfield 113, 3) := by decide +kernel
theorem dX8_load_153 : decode cX8_load 153 = .ok (.ireturn, 1) := by decide +kernel
theorem dX8_load_154 : decode cX8_load 154 = .ok (.iconst 0, 1) := by decide +kernel
theorem dX8_load_155 : decode cX8_load 155 = .ok (.istore_n 2, 1) := by decide +kernel
theorem dX8_load_156 : decode cX8_load 156 = .ok (.iload_n 2, 1) := by decide +kernel
theorem dX8_load_157 : decode cX8_load 157 = .ok (.sipush 703, 3) := by decide +kernel
theorem dX8_load_160 : decode cX8_load 160 = .ok (.if_icmp .ge 21, 3) := by decide +kernel
theorem dX8_load_163 : decode cX8_load 163 = .ok (.aload_n 0, 1) := by decide +kernel
theorem dX8_load_164 : decode cX8_load 164 = .ok (.getfield 7, 3) := by decide +kernel
theorem dX8_load_167 : decode cX8_load 167 = .ok (.iload_n 2, 1) := by decide +kernel
theorem dX8_load_168 : decode cX8_load 168 = .ok (.aload_n 0, 1) := by decide +kernel
theorem dX8_load_169 : decode cX8_load 169 = .ok (.getfield 13, 3) := by decide +kernel
theorem dX8_load_172 : decode cX8_load 172 = .ok (.iload_n 2, 1) := by decide +kernel
theorem dX8_load_173 : decode cX8_load 173 = .ok (.iaload, 1) := by decide +kernel
theorem dX8_load_174 : decode cX8_load 174 = .ok (.iastore, 1) := by decide +kernel
theorem dX8_load_175 : decode cX8_load 175 = .ok (.iinc 2 1, 3) := by decide +kernel
theorem dX8_load_178 : decode cX8_load 178 = .ok (.goto (-22), 3) := by decide +kernel
theorem dX8_load_181 : decode cX8_load 181 = .ok (.iconst 0, 1) := by decide +kernel
theorem dX8_load_182 : decode cX8_load 182 = .ok (.istore_n 2, 1) := by decide +kernel
theorem dX8_load_183 : decode cX8_load 183 = .ok (.iload_n 2, 1) := by decide +kernel
theorem dX8_load_184 : decode cX8_load 184 = .ok (.sipush 137, 3) := by decide +kernel
theorem dX8_load_187 : decode cX8_load 187 = .ok (.if_icmp .ge 21, 3) := by decide +kernel
theorem dX8_load_190 : decode cX8_load 190 = .ok (.aload_n 0, 1) := by decide +kernel
theorem dX8_load_191 : decode cX8_load 191 = .ok (.getfield 26, 3) := by decide +kernel
theorem dX8_load_194 : decode cX8_load 194 = .ok (.iload_n 2, 1) := by decide +kernel
theorem dX8_load_195 : decode cX8_load 195 = .ok (.aload_n 0, 1) := by decide +kernel
theorem dX8_load_196 : decode cX8_load 196 = .ok (.getfield 29, 3) := by decide +kernel
theorem dX8_load_199 : decode cX8_load 199 = .ok (.iload_n 2, 1) := by decide +kernel
theorem dX8_load_200 : decode cX8_load 200 = .ok (.iaload, 1) := by decide +kernel
theorem dX8_load_201 : decode cX8_load 201 = .ok (.iastore, 1) := by decide +kernel
theorem dX8_load_202 : decode cX8_load 202 = .ok (.iinc 2 1, 3) := by decide +kernel
theorem dX8_load_205 : decode cX8_load 205 = .ok (.goto (-22), 3) := by decide +kernel
theorem dX8_load_208 : decode cX8_load 208 = .ok (.aload_n 0, 1) := by decide +kernel
theorem dX8_load_209 : decode cX8_load 209 = .ok (.iconst 0, 1) := by decide +kernel
theorem dX8_load_210 : decode cX8_load 210 = .ok (.putfield 71, 3) := by decide +kernel
theorem dX8_load_213 : decode cX8_load 213 = .ok (.aload_n 0, 1) := by decide +kernel
theorem dX8_load_214 : decode cX8_load 214 = .ok (.getfield 221, 3) := by decide +kernel
theorem dX8_load_217 : decode cX8_load 217 = .ok (.ireturn, 1) := by decide +kernel
theorem dX8_count_0 : decode cX8_count 0 = .ok (.aload_n 0, 1) := by decide +kernel
theorem dX8_count_1 : decode cX8_count 1 = .ok (.getfield 26, 3) := by decide +kernel
theorem dX8_count_4 : decode cX8_count 4 = .ok (.iconst 0, 1) := by decide +kernel
theorem dX8_count_5 : decode cX8_count 5 = .ok (.iload_n 1, 1) := by decide +kernel
theorem dX8_count_6 : decode cX8_count 6 = .ok (.iadd, 1) := by decide +kernel
theorem dX8_count_7 : decode cX8_count 7 = .ok (.iaload, 1) := by decide +kernel
theorem dX8_count_8 : decode cX8_count 8 = .ok (.ireturn, 1) := by decide +kernel
theorem dX8_isLevel_0 : decode cX8_isLevel 0 = .ok (.iload_n 1, 1) := by decide +kernel
theorem dX8_isLevel_1 : decode cX8_isLevel 1 = .ok (.iconst 0, 1) := by decide +kernel
theorem dX8_isLevel_2 : decode cX8_isLevel 2 = .ok (.aload_n 0, 1) := by decide +kernel
theorem dX8_isLevel_3 : decode cX8_isLevel 3 = .ok (.iconst 0, 1) := by decide +kernel
theorem dX8_isLevel_4 : decode cX8_isLevel 4 = .ok (.invokevirtual 227, 3) := by decide +kernel
theorem dX8_isLevel_7 : decode cX8_isLevel 7 = .ok (.iconst 1, 1) := by decide +kernel
theorem dX8_isLevel_8 : decode cX8_isLevel 8 = .ok (.isub, 1) := by decide +kernel
theorem dX8_isLevel_9 : decode cX8_isLevel 9 = .ok (.invokestatic 107, 3) := by decide +kernel
theorem dX8_isLevel_12 : decode cX8_isLevel 12 = .ok (.ireturn, 1) := by decide +kernel
theorem dX8_isPoint_0 : decode cX8_isPoint 0 = .ok (.iload_n 1, 1) := by decide +kernel
theorem dX8_isPoint_1 : decode cX8_isPoint 1 = .ok (.iconst 0, 1) := by decide +kernel
theorem dX8_isPoint_2 : decode cX8_isPoint 2 = .ok (.aload_n 0, 1) := by decide +kernel
theorem dX8_isPoint_3 : decode cX8_isPoint 3 = .ok (.iconst 1, 1) := by decide +kernel
theorem dX8_isPoint_4 : decode cX8_isPoint 4 = .ok (.invokevirtual 227, 3) := by decide +kernel
theorem dX8_isPoint_7 : decode cX8_isPoint 7 = .ok (.iconst 1, 1) := by decide +kernel
theorem dX8_isPoint_8 : decode cX8_isPoint 8 = .ok (.isub, 1) := by decide +kernel
theorem dX8_isPoint_9 : decode cX8_isPoint 9 = .ok (.invokestatic 107, 3) := by decide +kernel
theorem dX8_isPoint_12 : decode cX8_isPoint 12 = .ok (.ireturn, 1) := by decide +kernel
theorem dX8_isLine_0 : decode cX8_isLine 0 = .ok (.iload_n 1, 1) := by decide +kernel
theorem dX8_isLine_1 : decode cX8_isLine 1 = .ok (.iconst 0, 1) := by decide +kernel
theorem dX8_isLine_2 : decode cX8_isLine 2 = .ok (.aload_n 0, 1) := by decide +kernel
theorem dX8_isLine_3 : decode cX8_isLine 3 = .ok (.iconst 2, 1) := by decide +kernel
theorem dX8_isLine_4 : decode cX8_isLine 4 = .ok (.invokevirtual 227, 3) := by decide +kernel
theorem dX8_isLine_7 : decode cX8_isLine 7 = .ok (.iconst 1, 1) := by decide +kernel
theorem dX8_isLine_8 : decode cX8_isLine 8 = .ok (.isub, 1) := by decide +kernel
theorem dX8_isLine_9 : decode cX8_isLine 9 = .ok (.invokestatic 107, 3) := by decide +kernel
theorem dX8_isLine_12 : decode cX8_isLine 12 = .ok (.ireturn, 1) := by decide +kernel
theorem dX8_isTest_0 : decode cX8_isTest 0 = .ok (.iload_n 1, 1) := by decide +kernel
theorem dX8_isTest_1 : decode cX8_isTest 1 = .ok (.iconst 0, 1) := by decide +kernel
theorem dX8_isTest_2 : decode cX8_isTest 2 = .ok (.aload_n 0, 1) := by decide +kernel
theorem dX8_isTest_3 : decode cX8_isTest 3 = .ok (.iconst 3, 1) := by decide +kernel
theorem dX8_isTest_4 : decode cX8_isTest 4 = .ok (.invokevirtual 227, 3) := by decide +kernel
theorem dX8_isTest_7 : decode cX8_isTest 7 = .ok (.iconst 1, 1) := by decide +kernel
theorem dX8_isTest_8 : decode cX8_isTest 8 = .ok (.isub, 1) := by decide +kernel
theorem dX8_isTest_9 : decode cX8_isTest 9 = .ok (.invokestatic 107, 3) := by decide +kernel
theorem dX8_isTest_12 : decode cX8_isTest 12 = .ok (.ireturn, 1) := by decide +kernel
theorem dX8_levelCount_0 : decode cX8_levelCount 0 = .ok (.aload_n 0, 1) := by decide +kernel
theorem dX8_levelCount_1 : decode cX8_levelCount 1 = .ok (.iconst 0, 1) := by decide +kernel
theorem dX8_levelCount_2 : decode cX8_levelCount 2 = .ok (.putfield 68, 3) := by decide +kernel
theorem dX8_levelCount_5 : decode cX8_levelCount 5 = .ok (.aload_n 0, 1) := by decide +kernel
theorem dX8_levelCount_6 : decode cX8_levelCount 6 = .ok (.iconst 0, 1) := by decide +kernel
theorem dX8_levelCount_7 : decode cX8_levelCount 7 = .ok (.invokevirtual 227, 3) := by decide +kernel
theorem dX8_levelCount_10 : decode cX8_levelCount 10 = .ok (.ireturn, 1) := by decide +kernel
theorem dX8_pointCount_0 : decode cX8_pointCount 0 = .ok (.aload_n 0, 1) := by decide +kernel
theorem dX8_pointCount_1 : decode cX8_pointCount 1 = .ok (.iconst 0, 1) := by decide +kernel
theorem dX8_pointCount_2 : decode cX8_pointCount 2 = .ok (.putfield 68, 3) := by decide +kernel
theorem dX8_pointCount_5 : decode cX8_pointCount 5 = .ok (.aload_n 0, 1) := by decide +kernel
theorem dX8_pointCount_6 : decode cX8_pointCount 6 = .ok (.iconst 1, 1) := by decide +kernel
theorem dX8_pointCount_7 : decode cX8_pointCount 7 = .ok (.invokevirtual 227, 3) := by decide +kernel
theorem dX8_pointCount_10 : decode cX8_pointCount 10 = .ok (.ireturn, 1) := by decide +kernel
theorem dX8_lineCount_0 : decode cX8_lineCount 0 = .ok (.aload_n 0, 1) := by decide +kernel
theorem dX8_lineCount_1 : decode cX8_lineCount 1 = .ok (.iconst 0, 1) := by decide +kernel
theorem dX8_lineCount_2 : decode cX8_lineCount 2 = .ok (.putfield 68, 3) := by decide +kernel
theorem dX8_lineCount_5 : decode cX8_lineCount 5 = .ok (.aload_n 0, 1) := by decide +kernel
theorem dX8_lineCount_6 : decode cX8_lineCount 6 = .ok (.iconst 2, 1) := by decide +kernel
theorem dX8_lineCount_7 : decode cX8_lineCount 7 = .ok (.invokevirtual 227, 3) := by decide +kernel
theorem dX8_lineCount_10 : decode cX8_lineCount 10 = .ok (.ireturn, 1) := by decide +kernel
theorem dX8_testCount_0 : decode cX8_testCount 0 = .ok (.aload_n 0, 1) := by decide +kernel
theorem dX8_testCount_1 : decode cX8_testCount 1 = .ok (.iconst 0, 1) := by decide +kernel
theorem dX8_testCount_2 : decode cX8_testCount 2 = .ok (.putfield 68, 3) := by decide +kernel
theorem dX8_testCount_5 : decode cX8_testCount 5 = .ok (.aload_n 0, 1) := by decide +kernel
theorem dX8_testCount_6 : decode cX8_testCount 6 = .ok (.iconst 3, 1) := by decide +kernel
theorem dX8_testCount_7 : decode cX8_testCount 7 = .ok (.invokevirtual 227, 3) := by decide +kernel
theorem dX8_testCount_10 : decode cX8_testCount 10 = .ok (.ireturn, 1) := by decide +kernel
theorem dX8_levelNamed_0 : decode cX8_levelNamed 0 = .ok (.aload_n 0, 1) := by decide +kernel
theorem dX8_levelNamed_1 : decode cX8_levelNamed 1 = .ok (.iconst 0, 1) := by decide +kernel
theorem dX8_levelNamed_2 : decode cX8_levelNamed 2 = .ok (.putfield 68, 3) := by decide +kernel
theorem dX8_levelNamed_5 : decode cX8_levelNamed 5 = .ok (.aload_n 0, 1) := by decide +kernel
theorem dX8_levelNamed_6 : decode cX8_levelNamed 6 = .ok (.getfield 26, 3) := by decide +kernel
theorem dX8_levelNamed_9 : decode cX8_levelNamed 9 = .ok (.iconst 0, 1) := by decide +kernel
theorem dX8_levelNamed_10 : decode cX8_levelNamed 10 = .ok (.iload_n 1, 1) := by decide +kernel
theorem dX8_levelNamed_11 : decode cX8_levelNamed 11 = .ok (.invokestatic 147, 3) := by decide +kernel
theorem dX8_levelNamed_14 : decode cX8_levelNamed 14 = .ok (.ireturn, 1) := by decide +kernel
theorem dX8_pointNamed_0 : decode cX8_pointNamed 0 = .ok (.aload_n 0, 1) := by decide +kernel
theorem dX8_pointNamed_1 : decode cX8_pointNamed 1 = .ok (.iconst 0, 1) := by decide +kernel
theorem dX8_pointNamed_2 : decode cX8_pointNamed 2 = .ok (.putfield 68, 3) := by decide +kernel
theorem dX8_pointNamed_5 : decode cX8_pointNamed 5 = .ok (.aload_n 0, 1) := by decide +kernel
theorem dX8_pointNamed_6 : decode cX8_pointNamed 6 = .ok (.getfield 26, 3) := by decide +kernel
theorem dX8_pointNamed_9 : decode cX8_pointNamed 9 = .ok (.iconst 1, 1) := by decide +kernel
theorem dX8_pointNamed_10 : decode cX8_pointNamed 10 = .ok (.iload_n 1, 1) := by decide +kernel
theorem dX8_pointNamed_11 : decode cX8_pointNamed 11 = .ok (.invokestatic 147, 3) := by decide +kernel
theorem dX8_pointNamed_14 : decode cX8_pointNamed 14 = .ok (.ireturn, 1) := by decide +kernel
theorem dX8_getSetting_0 : decode cX8_getSetting 0 = .ok (.aload_n 0, 1) := by decide +kernel
theorem dX8_getSetting_1 : decode cX8_getSetting 1 = .ok (.iconst 0, 1) := by decide +kernel
theorem dX8_getSetting_2 : decode cX8_getSetting 2 = .ok (.putfield 68, 3) := by decide +kernel
theorem dX8_getSetting_5 : decode cX8_getSetting 5 = .ok (.iload_n 1, 1) := by decide +kernel
theorem dX8_getSetting_6 : decode cX8_getSetting 6 = .ok (.iconst 0, 1) := by decide +kernel
theorem dX8_getSetting_7 : decode cX8_getSetting 7 = .ok (.iconst 2, 1) := by decide +kernel
theorem dX8_getSetting_8 : decode cX8_getSetting 8 = .ok (.invokestatic 107, 3) := by decide +kernel
theorem dX8_getSetting_11 : decode cX8_getSetting 11 = .ok (.ifCond .eq 12, 3) := by decide +kernel
theorem dX8_getSetting_14 : decode cX8_getSetting 14 = .ok (.aload_n 0, 1) := by decide +kernel
theorem dX8_getSetting_15 : decode cX8_getSetting 15 = .ok (.getfield 7, 3) := by decide +kernel
theorem dX8_getSetting_18 : decode cX8_getSetting 18 = .ok (.iload_n 1, 1) := by decide +kernel
theorem dX8_getSetting_19 : decode cX8_getSetting 19 = .ok (.iaload, 1) := by decide +kernel
theorem dX8_getSetting_20 : decode cX8_getSetting 20 = .ok (.goto 5, 3) := by decide +kernel
theorem dX8_getSetting_23 : decode cX8_getSetting 23 = .ok (.bipush (-2), 2) := by decide +kernel
theorem dX8_getSetting_25 : decode cX8_getSetting 25 = .ok (.ireturn, 1) := by decide +kernel
theorem dX8_collimation_0 : decode cX8_collimation 0 = .ok (.aload_n 0, 1) := by decide +kernel
theorem dX8_collimation_1 : decode cX8_collimation 1 = .ok (.aload_n 0, 1) := by decide +kernel
theorem dX8_collimation_2 : decode cX8_collimation 2 = .ok (.iload_n 1, 1) := by decide +kernel
theorem dX8_collimation_3 : decode cX8_collimation 3 = .ok (.invokevirtual 230, 3) := by decide +kernel
theorem dX8_collimation_6 : decode cX8_collimation 6 = .ok (.invokevirtual 234, 3) := by decide +kernel
theorem dX8_collimation_9 : decode cX8_collimation 9 = .ok (.ifCond .eq 7, 3) := by decide +kernel
theorem dX8_collimation_12 : decode cX8_collimation 12 = .ok (.iconst 0, 1) := by decide +kernel
theorem dX8_collimation_13 : decode cX8_collimation 13 = .ok (.goto 11, 3) := by decide +kernel
theorem dX8_collimation_16 : decode cX8_collimation 16 = .ok (.aload_n 0, 1) := by decide +kernel
theorem dX8_collimation_17 : decode cX8_collimation 17 = .ok (.getfield 7, 3) := by decide +kernel
theorem dX8_collimation_20 : decode cX8_collimation 20 = .ok (.iconst 3, 1) := by decide +kernel
theorem dX8_collimation_21 : decode cX8_collimation 21 = .ok (.iload_n 1, 1) := by decide +kernel
theorem dX8_collimation_22 : decode cX8_collimation 22 = .ok (.iadd, 1) := by decide +kernel
theorem dX8_collimation_23 : decode cX8_collimation 23 = .ok (.iaload, 1) := by decide +kernel
theorem dX8_collimation_24 : decode cX8_collimation 24 = .ok (.ireturn, 1) := by decide +kernel
theorem dX8_testOf_0 : decode cX8_testOf 0 = .ok (.aload_n 0, 1) := by decide +kernel
theorem dX8_testOf_1 : decode cX8_testOf 1 = .ok (.getfield 26, 3) := by decide +kernel
theorem dX8_testOf_4 : decode cX8_testOf 4 = .ok (.bipush 64, 2) := by decide +kernel
theorem dX8_testOf_6 : decode cX8_testOf 6 = .ok (.bipush 9, 2) := by decide +kernel
theorem dX8_testOf_8 : decode cX8_testOf 8 = .ok (.iload_n 1, 1) := by decide +kernel
theorem dX8_testOf_9 : decode cX8_testOf 9 = .ok (.imul, 1) := by decide +kernel
theorem dX8_testOf_10 : decode cX8_testOf 10 = .ok (.iadd, 1) := by decide +kernel
theorem dX8_testOf_11 : decode cX8_testOf 11 = .ok (.iconst 1, 1) := by decide +kernel
theorem dX8_testOf_12 : decode cX8_testOf 12 = .ok (.iadd, 1) := by decide +kernel
theorem dX8_testOf_13 : decode cX8_testOf 13 = .ok (.iload_n 2, 1) := by decide +kernel
theorem dX8_testOf_14 : decode cX8_testOf 14 = .ok (.iadd, 1) := by decide +kernel
theorem dX8_testOf_15 : decode cX8_testOf 15 = .ok (.iaload, 1) := by decide +kernel
theorem dX8_testOf_16 : decode cX8_testOf 16 = .ok (.ireturn, 1) := by decide +kernel
theorem dX8_apart_0 : decode cX8_apart 0 = .ok (.aload_n 0, 1) := by decide +kernel
theorem dX8_apart_1 : decode cX8_apart 1 = .ok (.iload_n 1, 1) := by decide +kernel
theorem dX8_apart_2 : decode cX8_apart 2 = .ok (.iconst 0, 1) := by decide +kernel
theorem dX8_apart_3 : decode cX8_apart 3 = .ok (.invokevirtual 238, 3) := by decide +kernel
theorem dX8_apart_6 : decode cX8_apart 6 = .ok (.aload_n 0, 1) := by decide +kernel
theorem dX8_apart_7 : decode cX8_apart 7 = .ok (.iload_n 1, 1) := by decide +kernel
theorem dX8_apart_8 : decode cX8_apart 8 = .ok (.iconst 1, 1) := by decide +kernel
theorem dX8_apart_9 : decode cX8_apart 9 = .ok (.invokevirtual 238, 3) := by decide +kernel
theorem dX8_apart_12 : decode cX8_apart 12 = .ok (.isub, 1) := by decide +kernel
theorem dX8_apart_13 : decode cX8_apart 13 = .ok (.aload_n 0, 1) := by decide +kernel
theorem dX8_apart_14 : decode cX8_apart 14 = .ok (.iload_n 1, 1) := by decide +kernel
theorem dX8_apart_15 : decode cX8_apart 15 = .ok (.iconst 4, 1) := by decide +kernel
theorem dX8_apart_16 : decode cX8_apart 16 = .ok (.invokevirtual 238, 3) := by decide +kernel
theorem dX8_apart_19 : decode cX8_apart 19 = .ok (.aload_n 0, 1) := by decide +kernel
theorem dX8_apart_20 : decode cX8_apart 20 = .ok (.iload_n 1, 1) := by decide +kernel
theorem dX8_apart_21 : decode cX8_apart 21 = .ok (.iconst 5, 1) := by decide +kernel
theorem dX8_apart_22 : decode cX8_apart 22 = .ok (.invokevirtual 238, 3) := by decide +kernel
theorem dX8_apart_25 : decode cX8_apart 25 = .ok (.isub, 1) := by decide +kernel
theorem dX8_apart_26 : decode cX8_apart 26 = .ok (.isub, 1) := by decide +kernel
theorem dX8_apart_27 : decode cX8_apart 27 = .ok (.ireturn, 1) := by decide +kernel
theorem dX8_result_0 : decode cX8_result 0 = .ok (.aload_n 0, 1) := by decide +kernel
theorem dX8_result_1 : decode cX8_result 1 = .ok (.iload_n 1, 1) := by decide +kernel
theorem dX8_result_2 : decode cX8_result 2 = .ok (.iconst 2, 1) := by decide +kernel
theorem dX8_result_3 : decode cX8_result 3 = .ok (.invokevirtual 238, 3) := by decide +kernel
theorem dX8_result_6 : decode cX8_result 6 = .ok (.aload_n 0, 1) := by decide +kernel
theorem dX8_result_7 : decode cX8_result 7 = .ok (.iload_n 1, 1) := by decide +kernel
theorem dX8_result_8 : decode cX8_result 8 = .ok (.iconst 3, 1) := by decide +kernel
theorem dX8_result_9 : decode cX8_result 9 = .ok (.invokevirtual 238, 3) := by decide +kernel
theorem dX8_result_12 : decode cX8_result 12 = .ok (.isub, 1) := by decide +kernel
theorem dX8_result_13 : decode cX8_result 13 = .ok (.aload_n 0, 1) := by decide +kernel
theorem dX8_result_14 : decode cX8_result 14 = .ok (.iload_n 1, 1) := by decide +kernel
theorem dX8_result_15 : decode cX8_result 15 = .ok (.bipush 6, 2) := by decide +kernel
theorem dX8_result_17 : decode cX8_result 17 = .ok (.invokevirtual 238, 3) := by decide +kernel
theorem dX8_result_20 : decode cX8_result 20 = .ok (.aload_n 0, 1) := by decide +kernel
theorem dX8_result_21 : decode cX8_result 21 = .ok (.iload_n 1, 1) := by decide +kernel
theorem dX8_result_22 : decode cX8_result 22 = .ok (.bipush 7, 2) := by decide +kernel
theorem dX8_result_24 : decode cX8_result 24 = .ok (.invokevirtual 238, 3) := by decide +kernel
theorem dX8_result_27 : decode cX8_result 27 = .ok (.isub, 1) := by decide +kernel
theorem dX8_result_28 : decode cX8_result 28 = .ok (.isub, 1) := by decide +kernel
theorem dX8_result_29 : decode cX8_result 29 = .ok (.istore_n 2, 1) := by decide +kernel
theorem dX8_result_30 : decode cX8_result 30 = .ok (.iload_n 2, 1) := by decide +kernel
theorem dX8_result_31 : decode cX8_result 31 = .ok (.ifCond .ne 6, 3) := by decide +kernel
theorem dX8_result_34 : decode cX8_result 34 = .ok (.ldc 241, 2) := by decide +kernel
theorem dX8_result_36 : decode cX8_result 36 = .ok (.ireturn, 1) := by decide +kernel
theorem dX8_result_37 : decode cX8_result 37 = .ok (.bipush 100, 2) := by decide +kernel
theorem dX8_result_39 : decode cX8_result 39 = .ok (.aload_n 0, 1) := by decide +kernel
theorem dX8_result_40 : decode cX8_result 40 = .ok (.iload_n 1, 1) := by decide +kernel
theorem dX8_result_41 : decode cX8_result 41 = .ok (.invokevirtual 242, 3) := by decide +kernel
theorem dX8_result_44 : decode cX8_result 44 = .ok (.imul, 1) := by decide +kernel
theorem dX8_result_45 : decode cX8_result 45 = .ok (.iload_n 2, 1) := by decide +kernel
theorem dX8_result_46 : decode cX8_result 46 = .ok (.idiv, 1) := by decide +kernel
theorem dX8_result_47 : decode cX8_result 47 = .ok (.istore_n 3, 1) := by decide +kernel
theorem dX8_result_48 : decode cX8_result 48 = .ok (.iload_n 3, 1) := by decide +kernel
theorem dX8_result_49 : decode cX8_result 49 = .ok (.sipush (-200), 3) := by decide +kernel
theorem dX8_result_52 : decode cX8_result 52 = .ok (.sipush 200, 3) := by decide +kernel
theorem dX8_result_55 : decode cX8_result 55 = .ok (.invokestatic 107, 3) := by decide +kernel
theorem dX8_result_58 : decode cX8_result 58 = .ok (.ifCond .eq 7, 3) := by decide +kernel
theorem dX8_result_61 : decode cX8_result 61 = .ok (.iload_n 3, 1) := by decide +kernel
theorem dX8_result_62 : decode cX8_result 62 = .ok (.goto 5, 3) := by decide +kernel
theorem dX8_result_65 : decode cX8_result 65 = .ok (.ldc 241, 2) := by decide +kernel
theorem dX8_result_67 : decode cX8_result 67 = .ok (.ireturn, 1) := by decide +kernel
theorem dX8_testNumber_0 : decode cX8_testNumber 0 = .ok (.aload_n 0, 1) := by decide +kernel
theorem dX8_testNumber_1 : decode cX8_testNumber 1 = .ok (.aload_n 0, 1) := by decide +kernel
theorem dX8_testNumber_2 : decode cX8_testNumber 2 = .ok (.iload_n 1, 1) := by decide +kernel
theorem dX8_testNumber_3 : decode cX8_testNumber 3 = .ok (.invokevirtual 245, 3) := by decide +kernel
theorem dX8_testNumber_6 : decode cX8_testNumber 6 = .ok (.invokevirtual 234, 3) := by decide +kernel
theorem dX8_testNumber_9 : decode cX8_testNumber 9 = .ok (.ifCond .eq 5, 3) := by decide +kernel
theorem dX8_testNumber_12 : decode cX8_testNumber 12 = .ok (.iconst 0, 1) := by decide +kernel
theorem dX8_testNumber_13 : decode cX8_testNumber 13 = .ok (.ireturn, 1) := by decide +kernel
theorem dX8_testNumber_14 : decode cX8_testNumber 14 = .ok (.iload_n 2, 1) := by decide +kernel
theorem dX8_testNumber_15 : decode cX8_testNumber 15 = .ok (.ifCond .ne 18, 3) := by decide +kernel
theorem dX8_testNumber_18 : decode cX8_testNumber 18 = .ok (.aload_n 0, 1) := by decide +kernel
theorem dX8_testNumber_19 : decode cX8_testNumber 19 = .ok (.getfield 26, 3) := by decide +kernel
theorem dX8_testNumber_22 : decode cX8_testNumber 22 = .ok (.bipush 64, 2) := by decide +kernel
theorem dX8_testNumber_24 : decode cX8_testNumber 24 = .ok (.bipush 9, 2) := by decide +kernel
theorem dX8_testNumber_26 : decode cX8_testNumber 26 = .ok (.iload_n 1, 1) := by decide +kernel
theorem dX8_testNumber_27 : decode cX8_testNumber 27 = .ok (.imul, 1) := by decide +kernel
theorem dX8_testNumber_28 : decode cX8_testNumber 28 = .ok (.iadd, 1) := by decide +kernel
theorem dX8_testNumber_29 : decode cX8_testNumber 29 = .ok (.iaload, 1) := by decide +kernel
theorem dX8_testNumber_30 : decode cX8_testNumber 30 = .ok (.goto 31, 3) := by decide +kernel
theorem dX8_testNumber_33 : decode cX8_testNumber 33 = .ok (.iload_n 2, 1) := by decide +kernel
theorem dX8_testNumber_34 : decode cX8_testNumber 34 = .ok (.iconst 1, 1) := by decide +kernel
theorem dX8_testNumber_35 : decode cX8_testNumber 35 = .ok (.if_icmp .ne 11, 3) := by decide +kernel
theorem dX8_testNumber_38 : decode cX8_testNumber 38 = .ok (.aload_n 0, 1) := by decide +kernel
theorem dX8_testNumber_39 : decode cX8_testNumber 39 = .ok (.iload_n 1, 1) := by decide +kernel
theorem dX8_testNumber_40 : decode cX8_testNumber 40 = .ok (.invokevirtual 248, 3) := by decide +kernel
theorem dX8_testNumber_43 : decode cX8_testNumber 43 = .ok (.goto 18, 3) := by decide +kernel
theorem dX8_testNumber_46 : decode cX8_testNumber 46 = .ok (.iload_n 2, 1) := by decide +kernel
theorem dX8_testNumber_47 : decode cX8_testNumber 47 = .ok (.iconst 2, 1) := by decide +kernel
theorem dX8_testNumber_48 : decode cX8_testNumber 48 = .ok (.if_icmp .ne 11, 3) := by decide +kernel
theorem dX8_testNumber_51 : decode cX8_testNumber 51 = .ok (.aload_n 0, 1) := by decide +kernel
theorem dX8_testNumber_52 : decode cX8_testNumber 52 = .ok (.iload_n 1, 1) := by decide +kernel
theorem dX8_testNumber_53 : decode cX8_testNumber 53 = .ok (.invokevirtual 242, 3) := by decide +kernel
theorem dX8_testNumber_56 : decode cX8_testNumber 56 = .ok (.goto 5, 3) := by decide +kernel
theorem dX8_testNumber_59 : decode cX8_testNumber 59 = .ok (.ldc 241, 2) := by decide +kernel
theorem dX8_testNumber_61 : decode cX8_testNumber 61 = .ok (.ireturn, 1) := by decide +kernel
theorem dX8_heldAt_0 : decode cX8_heldAt 0 = .ok (.aload_n 0, 1) := by decide +kernel
theorem dX8_heldAt_1 : decode cX8_heldAt 1 = .ok (.aload_n 0, 1) := by decide +kernel
theorem dX8_heldAt_2 : decode cX8_heldAt 2 = .ok (.iload_n 1, 1) := by decide +kernel
theorem dX8_heldAt_3 : decode cX8_heldAt 3 = .ok (.invokevirtual 251, 3) := by decide +kernel
theorem dX8_heldAt_6 : decode cX8_heldAt 6 = .ok (.invokevirtual 234, 3) := by decide +kernel
theorem dX8_heldAt_9 : decode cX8_heldAt 9 = .ok (.ifCond .eq 7, 3) := by decide +kernel
theorem dX8_heldAt_12 : decode cX8_heldAt 12 = .ok (.iconst 0, 1) := by decide +kernel
theorem dX8_heldAt_13 : decode cX8_heldAt 13 = .ok (.goto 12, 3) := by decide +kernel
theorem dX8_heldAt_16 : decode cX8_heldAt 16 = .ok (.aload_n 0, 1) := by decide +kernel
theorem dX8_heldAt_17 : decode cX8_heldAt 17 = .ok (.getfield 7, 3) := by decide +kernel
theorem dX8_heldAt_20 : decode cX8_heldAt 20 = .ok (.bipush 6, 2) := by decide +kernel
theorem dX8_heldAt_22 : decode cX8_heldAt 22 = .ok (.iload_n 1, 1) := by decide +kernel
theorem dX8_heldAt_23 : decode cX8_heldAt 23 = .ok (.iadd, 1) := by decide +kernel
theorem dX8_heldAt_24 : decode cX8_heldAt 24 = .ok (.iaload, 1) := by decide +kernel
theorem dX8_heldAt_25 : decode cX8_heldAt 25 = .ok (.ireturn, 1) := by decide +kernel
theorem dX8_first_0 : decode cX8_first 0 = .ok (.aload_n 0, 1) := by decide +kernel
theorem dX8_first_1 : decode cX8_first 1 = .ok (.getfield 26, 3) := by decide +kernel
theorem dX8_first_4 : decode cX8_first 4 = .ok (.iconst 4, 1) := by decide +kernel
theorem dX8_first_5 : decode cX8_first 5 = .ok (.iload_n 1, 1) := by decide +kernel
theorem dX8_first_6 : decode cX8_first 6 = .ok (.iadd, 1) := by decide +kernel
theorem dX8_first_7 : decode cX8_first 7 = .ok (.iaload, 1) := by decide +kernel
theorem dX8_first_8 : decode cX8_first 8 = .ok (.ireturn, 1) := by decide +kernel
theorem dX8_second_0 : decode cX8_second 0 = .ok (.aload_n 0, 1) := by decide +kernel
theorem dX8_second_1 : decode cX8_second 1 = .ok (.getfield 26, 3) := by decide +kernel
theorem dX8_second_4 : decode cX8_second 4 = .ok (.bipush 24, 2) := by decide +kernel
theorem dX8_second_6 : decode cX8_second 6 = .ok (.iload_n 1, 1) := by decide +kernel
theorem dX8_second_7 : decode cX8_second 7 = .ok (.iadd, 1) := by decide +kernel
theorem dX8_second_8 : decode cX8_second 8 = .ok (.iaload, 1) := by decide +kernel
theorem dX8_second_9 : decode cX8_second 9 = .ok (.ireturn, 1) := by decide +kernel
theorem dX8_isActive_0 : decode cX8_isActive 0 = .ok (.aload_n 0, 1) := by decide +kernel
theorem dX8_isActive_1 : decode cX8_isActive 1 = .ok (.getfield 7, 3) := by decide +kernel
theorem dX8_isActive_4 : decode cX8_isActive 4 = .ok (.bipush 22, 2) := by decide +kernel
theorem dX8_isActive_6 : decode cX8_isActive 6 = .ok (.iload_n 1, 1) := by decide +kernel
theorem dX8_isActive_7 : decode cX8_isActive 7 = .ok (.iadd, 1) := by decide +kernel
theorem dX8_isActive_8 : decode cX8_isActive 8 = .ok (.iaload, 1) := by decide +kernel
theorem dX8_isActive_9 : decode cX8_isActive 9 = .ok (.iconst 1, 1) := by decide +kernel
theorem dX8_isActive_10 : decode cX8_isActive 10 = .ok (.if_icmp .ne 7, 3) := by decide +kernel
theorem dX8_isActive_13 : decode cX8_isActive 13 = .ok (.iconst 1, 1) := by decide +kernel
theorem dX8_isActive_14 : decode cX8_isActive 14 = .ok (.goto 4, 3) := by decide +kernel
theorem dX8_isActive_17 : decode cX8_isActive 17 = .ok (.iconst 0, 1) := by decide +kernel
theorem dX8_isActive_18 : decode cX8_isActive 18 = .ok (.ireturn, 1) := by decide +kernel
theorem dX8_setups_0 : decode cX8_setups 0 = .ok (.aload_n 0, 1) := by decide +kernel
theorem dX8_setups_1 : decode cX8_setups 1 = .ok (.getfield 7, 3) := by decide +kernel
theorem dX8_setups_4 : decode cX8_setups 4 = .ok (.bipush 42, 2) := by decide +kernel
theorem dX8_setups_6 : decode cX8_setups 6 = .ok (.iload_n 1, 1) := by decide +kernel
theorem dX8_setups_7 : decode cX8_setups 7 = .ok (.iadd, 1) := by decide +kernel
theorem dX8_setups_8 : decode cX8_setups 8 = .ok (.iaload, 1) := by decide +kernel
theorem dX8_setups_9 : decode cX8_setups 9 = .ok (.ireturn, 1) := by decide +kernel
theorem dX8_of_0 : decode cX8_of 0 = .ok (.aload_n 0, 1) := by decide +kernel
theorem dX8_of_1 : decode cX8_of 1 = .ok (.getfield 7, 3) := by decide +kernel
theorem dX8_of_4 : decode cX8_of 4 = .ok (.iload_n 1, 1) := by decide +kernel
theorem dX8_of_5 : decode cX8_of 5 = .ok (.iload_n 2, 1) := by decide +kernel
theorem dX8_of_6 : decode cX8_of 6 = .ok (.iload_n 3, 1) := by decide +kernel
theorem dX8_of_7 : decode cX8_of 7 = .ok (.invokestatic 171, 3) := by decide +kernel
theorem dX8_of_10 : decode cX8_of 10 = .ok (.iaload, 1) := by decide +kernel
theorem dX8_of_11 : decode cX8_of 11 = .ok (.ireturn, 1) := by decide +kernel
theorem dX8_sum_0 : decode cX8_sum 0 = .ok (.iconst 0, 1) := by decide +kernel
theorem dX8_sum_1 : decode cX8_sum 1 = .ok (.istore_n 3, 1) := by decide +kernel
theorem dX8_sum_2 : decode cX8_sum 2 = .ok (.iconst 0, 1) := by decide +kernel
theorem dX8_sum_3 : decode cX8_sum 3 = .ok (.istore 4, 2) := by decide +kernel
theorem dX8_sum_5 : decode cX8_sum 5 = .ok (.iload 4, 2) := by decide +kernel
theorem dX8_sum_7 : decode cX8_sum 7 = .ok (.aload_n 0, 1) := by decide +kernel
theorem dX8_sum_8 : decode cX8_sum 8 = .ok (.iload_n 1, 1) := by decide +kernel
theorem dX8_sum_9 : decode cX8_sum 9 = .ok (.invokevirtual 254, 3) := by decide +kernel
theorem dX8_sum_12 : decode cX8_sum 12 = .ok (.if_icmp .ge 20, 3) := by decide +kernel
theorem dX8_sum_15 : decode cX8_sum 15 = .ok (.iload_n 3, 1) := by decide +kernel
theorem dX8_sum_16 : decode cX8_sum 16 = .ok (.aload_n 0, 1) := by decide +kernel
theorem dX8_sum_17 : decode cX8_sum 17 = .ok (.iload_n 1, 1) := by decide +kernel
theorem dX8_sum_18 : decode cX8_sum 18 = .ok (.iload 4, 2) := by decide +kernel
theorem dX8_sum_20 : decode cX8_sum 20 = .ok (.iload_n 2, 1) := by decide +kernel
theorem dX8_sum_21 : decode cX8_sum 21 = .ok (.invokevirtual 257, 3) := by decide +kernel
theorem dX8_sum_24 : decode cX8_sum 24 = .ok (.iadd, 1) := by decide +kernel
theorem dX8_sum_25 : decode cX8_sum 25 = .ok (.istore_n 3, 1) := by decide +kernel
theorem dX8_sum_26 : decode cX8_sum 26 = .ok (.iinc 4 1, 3) := by decide +kernel
theorem dX8_sum_29 : decode cX8_sum 29 = .ok (.goto (-24), 3) := by decide +kernel
theorem dX8_sum_32 : decode cX8_sum 32 = .ok (.iload_n 3, 1) := by decide +kernel
theorem dX8_sum_33 : decode cX8_sum 33 = .ok (.ireturn, 1) := by decide +kernel
theorem dX8_length_0 : decode cX8_length 0 = .ok (.aload_n 0, 1) := by decide +kernel
theorem dX8_length_1 : decode cX8_length 1 = .ok (.iload_n 1, 1) := by decide +kernel
theorem dX8_length_2 : decode cX8_length 2 = .ok (.iconst 2, 1) := by decide +kernel
theorem dX8_length_3 : decode cX8_length 3 = .ok (.invokevirtual 260, 3) := by decide +kernel
theorem dX8_length_6 : decode cX8_length 6 = .ok (.aload_n 0, 1) := by decide +kernel
theorem dX8_length_7 : decode cX8_length 7 = .ok (.iload_n 1, 1) := by decide +kernel
theorem dX8_length_8 : decode cX8_length 8 = .ok (.iconst 3, 1) := by decide +kernel
theorem dX8_length_9 : decode cX8_length 9 = .ok (.invokevirtual 260, 3) := by decide +kernel
theorem dX8_length_12 : decode cX8_length 12 = .ok (.iadd, 1) := by decide +kernel
theorem dX8_length_13 : decode cX8_length 13 = .ok (.ireturn, 1) := by decide +kernel
theorem dX8_weight_0 : decode cX8_weight 0 = .ok (.ldc_w 263, 3) := by decide +kernel
theorem dX8_weight_3 : decode cX8_weight 3 = .ok (.aload_n 0, 1) := by decide +kernel
theorem dX8_weight_4 : decode cX8_weight 4 = .ok (.iload_n 1, 1) := by decide +kernel
theorem dX8_weight_5 : decode cX8_weight 5 = .ok (.invokevirtual 264, 3) := by decide +kernel
theorem dX8_weight_8 : decode cX8_weight 8 = .ok (.idiv, 1) := by decide +kernel
theorem dX8_weight_9 : decode cX8_weight 9 = .ok (.ireturn, 1) := by decide +kernel
theorem dX8_balance_0 : decode cX8_balance 0 = .ok (.aload_n 0, 1) := by decide +kernel
theorem dX8_balance_1 : decode cX8_balance 1 = .ok (.iload_n 1, 1) := by decide +kernel
theorem dX8_balance_2 : decode cX8_balance 2 = .ok (.iconst 2, 1) := by decide +kernel
theorem dX8_balance_3 : decode cX8_balance 3 = .ok (.invokevirtual 260, 3) := by decide +kernel
theorem dX8_balance_6 : decode cX8_balance 6 = .ok (.aload_n 0, 1) := by decide +kernel
theorem dX8_balance_7 : decode cX8_balance 7 = .ok (.iload_n 1, 1) := by decide +kernel
theorem dX8_balance_8 : decode cX8_balance 8 = .ok (.iconst 3, 1) := by decide +kernel
theorem dX8_balance_9 : decode cX8_balance 9 = .ok (.invokevirtual 260, 3) := by decide +kernel
theorem dX8_balance_12 : decode cX8_balance 12 = .ok (.isub, 1) := by decide +kernel
theorem dX8_balance_13 : decode cX8_balance 13 = .ok (.ireturn, 1) := by decide +kernel
theorem dX8_lineCollimation_0 : decode cX8_lineCollimation 0 = .ok (.aload_n 0, 1) := by decide +kernel
theorem dX8_lineCollimation_1 : decode cX8_lineCollimation 1 = .ok (.getfield 7, 3) := by decide +kernel
theorem dX8_lineCollimation_4 : decode cX8_lineCollimation 4 = .ok (.iconst 3, 1) := by decide +kernel
theorem dX8_lineCollimation_5 : decode cX8_lineCollimation 5 = .ok (.aload_n 0, 1) := by decide +kernel
theorem dX8_lineCollimation_6 : decode cX8_lineCollimation 6 = .ok (.getfield 26, 3) := by decide +kernel
theorem dX8_lineCollimation_9 : decode cX8_lineCollimation 9 = .ok (.bipush 44, 2) := by decide +kernel
theorem dX8_lineCollimation_11 : decode cX8_lineCollimation 11 = .ok (.iload_n 1, 1) := by decide +kernel
theorem dX8_lineCollimation_12 : decode cX8_lineCollimation 12 = .ok (.iadd, 1) := by decide +kernel
theorem dX8_lineCollimation_13 : decode cX8_lineCollimation 13 = .ok (.iaload, 1) := by decide +kernel
theorem dX8_lineCollimation_14 : decode cX8_lineCollimation 14 = .ok (.iadd, 1) := by decide +kernel
theorem dX8_lineCollimation_15 : decode cX8_lineCollimation 15 = .ok (.iaload, 1) := by decide +kernel
theorem dX8_lineCollimation_16 : decode cX8_lineCollimation 16 = .ok (.ireturn, 1) := by decide +kernel
theorem dX8_step_0 : decode cX8_step 0 = .ok (.bipush 100, 2) := by decide +kernel
theorem dX8_step_2 : decode cX8_step 2 = .ok (.aload_n 0, 1) := by decide +kernel
theorem dX8_step_3 : decode cX8_step 3 = .ok (.iload_n 1, 1) := by decide +kernel
theorem dX8_step_4 : decode cX8_step 4 = .ok (.iload_n 2, 1) := by decide +kernel
theorem dX8_step_5 : decode cX8_step 5 = .ok (.iconst 0, 1) := by decide +kernel
theorem dX8_step_6 : decode cX8_step 6 = .ok (.invokevirtual 257, 3) := by decide +kernel
theorem dX8_step_9 : decode cX8_step 9 = .ok (.aload_n 0, 1) := by decide +kernel
theorem dX8_step_10 : decode cX8_step 10 = .ok (.iload_n 1, 1) := by decide +kernel
theorem dX8_step_11 : decode cX8_step 11 = .ok (.iload_n 2, 1) := by decide +kernel
theorem dX8_step_12 : decode cX8_step 12 = .ok (.iconst 1, 1) := by decide +kernel
theorem dX8_step_13 : decode cX8_step 13 = .ok (.invokevirtual 257, 3) := by decide +kernel
theorem dX8_step_16 : decode cX8_step 16 = .ok (.isub, 1) := by decide +kernel
theorem dX8_step_17 : decode cX8_step 17 = .ok (.imul, 1) := by decide +kernel
theorem dX8_step_18 : decode cX8_step 18 = .ok (.aload_n 0, 1) := by decide +kernel
theorem dX8_step_19 : decode cX8_step 19 = .ok (.iload_n 1, 1) := by decide +kernel
theorem dX8_step_20 : decode cX8_step 20 = .ok (.invokevirtual 267, 3) := by decide +kernel
theorem dX8_step_23 : decode cX8_step 23 = .ok (.aload_n 0, 1) := by decide +kernel
theorem dX8_step_24 : decode cX8_step 24 = .ok (.iload_n 1, 1) := by decide +kernel
theorem dX8_step_25 : decode cX8_step 25 = .ok (.iload_n 2, 1) := by decide +kernel
theorem dX8_step_26 : decode cX8_step 26 = .ok (.iconst 2, 1) := by decide +kernel
theorem dX8_step_27 : decode cX8_step 27 = .ok (.invokevirtual 257, 3) := by decide +kernel
theorem dX8_step_30 : decode cX8_step 30 = .ok (.aload_n 0, 1) := by decide +kernel
theorem dX8_step_31 : decode cX8_step 31 = .ok (.iload_n 1, 1) := by decide +kernel
theorem dX8_step_32 : decode cX8_step 32 = .ok (.iload_n 2, 1) := by decide +kernel
theorem dX8_step_33 : decode cX8_step 33 = .ok (.iconst 3, 1) := by decide +kernel
theorem dX8_step_34 : decode cX8_step 34 = .ok (.invokevirtual 257, 3) := by decide +kernel
theorem dX8_step_37 : decode cX8_step 37 = .ok (.isub, 1) := by decide +kernel
theorem dX8_step_38 : decode cX8_step 38 = .ok (.imul, 1) := by decide +kernel
theorem dX8_step_39 : decode cX8_step 39 = .ok (.isub, 1) := by decide +kernel
theorem dX8_step_40 : decode cX8_step 40 = .ok (.ireturn, 1) := by decide +kernel
theorem dX8_rise_0 : decode cX8_rise 0 = .ok (.iconst 0, 1) := by decide +kernel
theorem dX8_rise_1 : decode cX8_rise 1 = .ok (.istore_n 2, 1) := by decide +kernel
theorem dX8_rise_2 : decode cX8_rise 2 = .ok (.iconst 0, 1) := by decide +kernel
theorem dX8_rise_3 : decode cX8_rise 3 = .ok (.istore_n 3, 1) := by decide +kernel
theorem dX8_rise_4 : decode cX8_rise 4 = .ok (.iload_n 3, 1) := by decide +kernel
theorem dX8_rise_5 : decode cX8_rise 5 = .ok (.aload_n 0, 1) := by decide +kernel
theorem dX8_rise_6 : decode cX8_rise 6 = .ok (.iload_n 1, 1) := by decide +kernel
theorem dX8_rise_7 : decode cX8_rise 7 = .ok (.invokevirtual 254, 3) := by decide +kernel
theorem dX8_rise_10 : decode cX8_rise 10 = .ok (.if_icmp .ge 18, 3) := by decide +kernel
theorem dX8_rise_13 : decode cX8_rise 13 = .ok (.iload_n 2, 1) := by decide +kernel
theorem dX8_rise_14 : decode cX8_rise 14 = .ok (.aload_n 0, 1) := by decide +kernel
theorem dX8_rise_15 : decode cX8_rise 15 = .ok (.iload_n 1, 1) := by decide +kernel
theorem dX8_rise_16 : decode cX8_rise 16 = .ok (.iload_n 3, 1) := by decide +kernel
theorem dX8_rise_17 : decode cX8_rise 17 = .ok (.invokevirtual 270, 3) := by decide +kernel
theorem dX8_rise_20 : decode cX8_rise 20 = .ok (.iadd, 1) := by decide +kernel
theorem dX8_rise_21 : decode cX8_rise 21 = .ok (.istore_n 2, 1) := by decide +kernel
theorem dX8_rise_22 : decode cX8_rise 22 = .ok (.iinc 3 1, 3) := by decide +kernel
theorem dX8_rise_25 : decode cX8_rise 25 = .ok (.goto (-21), 3) := by decide +kernel
theorem dX8_rise_28 : decode cX8_rise 28 = .ok (.iload_n 2, 1) := by decide +kernel
theorem dX8_rise_29 : decode cX8_rise 29 = .ok (.ireturn, 1) := by decide +kernel
theorem dX8_riseFrom_0 : decode cX8_riseFrom 0 = .ok (.aload_n 0, 1) := by decide +kernel
theorem dX8_riseFrom_1 : decode cX8_riseFrom 1 = .ok (.iload_n 1, 1) := by decide +kernel
theorem dX8_riseFrom_2 : decode cX8_riseFrom 2 = .ok (.invokevirtual 273, 3) := by decide +kernel
theorem dX8_riseFrom_5 : decode cX8_riseFrom 5 = .ok (.iload_n 2, 1) := by decide +kernel
theorem dX8_riseFrom_6 : decode cX8_riseFrom 6 = .ok (.if_icmp .ne 11, 3) := by decide +kernel
theorem dX8_riseFrom_9 : decode cX8_riseFrom 9 = .ok (.aload_n 0, 1) := by decide +kernel
theorem dX8_riseFrom_10 : decode cX8_riseFrom 10 = .ok (.iload_n 1, 1) := by decide +kernel
theorem dX8_riseFrom_11 : decode cX8_riseFrom 11 = .ok (.invokevirtual 276, 3) := by decide +kernel
theorem dX8_riseFrom_14 : decode cX8_riseFrom 14 = .ok (.goto 9, 3) := by decide +kernel
theorem dX8_riseFrom_17 : decode cX8_riseFrom 17 = .ok (.aload_n 0, 1) := by decide +kernel
theorem dX8_riseFrom_18 : decode cX8_riseFrom 18 = .ok (.iload_n 1, 1) := by decide +kernel
theorem dX8_riseFrom_19 : decode cX8_riseFrom 19 = .ok (.invokevirtual 276, 3) := by decide +kernel
theorem dX8_riseFrom_22 : decode cX8_riseFrom 22 = .ok (.ineg, 1) := by decide +kernel
theorem dX8_riseFrom_23 : decode cX8_riseFrom 23 = .ok (.ireturn, 1) := by decide +kernel
theorem dX8_otherOf_0 : decode cX8_otherOf 0 = .ok (.aload_n 0, 1) := by decide +kernel
theorem dX8_otherOf_1 : decode cX8_otherOf 1 = .ok (.iload_n 1, 1) := by decide +kernel
theorem dX8_otherOf_2 : decode cX8_otherOf 2 = .ok (.invokevirtual 273, 3) := by decide +kernel
theorem dX8_otherOf_5 : decode cX8_otherOf 5 = .ok (.iload_n 2, 1) := by decide +kernel
theorem dX8_otherOf_6 : decode cX8_otherOf 6 = .ok (.if_icmp .ne 11, 3) := by decide +kernel
theorem dX8_otherOf_9 : decode cX8_otherOf 9 = .ok (.aload_n 0, 1) := by decide +kernel
theorem dX8_otherOf_10 : decode cX8_otherOf 10 = .ok (.iload_n 1, 1) := by decide +kernel
theorem dX8_otherOf_11 : decode cX8_otherOf 11 = .ok (.invokevirtual 279, 3) := by decide +kernel
theorem dX8_otherOf_14 : decode cX8_otherOf 14 = .ok (.goto 8, 3) := by decide +kernel
theorem dX8_otherOf_17 : decode cX8_otherOf 17 = .ok (.aload_n 0, 1) := by decide +kernel
theorem dX8_otherOf_18 : decode cX8_otherOf 18 = .ok (.iload_n 1, 1) := by decide +kernel
theorem dX8_otherOf_19 : decode cX8_otherOf 19 = .ok (.invokevirtual 273, 3) := by decide +kernel
theorem dX8_otherOf_22 : decode cX8_otherOf 22 = .ok (.ireturn, 1) := by decide +kernel
theorem dX8_touches_0 : decode cX8_touches 0 = .ok (.aload_n 0, 1) := by decide +kernel
theorem dX8_touches_1 : decode cX8_touches 1 = .ok (.iload_n 1, 1) := by decide +kernel
theorem dX8_touches_2 : decode cX8_touches 2 = .ok (.invokevirtual 282, 3) := by decide +kernel
theorem dX8_touches_5 : decode cX8_touches 5 = .ok (.ifCond .eq 25, 3) := by decide +kernel
theorem dX8_touches_8 : decode cX8_touches 8 = .ok (.aload_n 0, 1) := by decide +kernel
theorem dX8_touches_9 : decode cX8_touches 9 = .ok (.iload_n 1, 1) := by decide +kernel
theorem dX8_touches_10 : decode cX8_touches 10 = .ok (.invokevirtual 273, 3) := by decide +kernel
theorem dX8_touches_13 : decode cX8_touches 13 = .ok (.iload_n 2, 1) := by decide +kernel
theorem dX8_touches_14 : decode cX8_touches 14 = .ok (.if_icmp .eq 12, 3) := by decide +kernel
theorem dX8_touches_17 : decode cX8_touches 17 = .ok (.aload_n 0, 1) := by decide +kernel
theorem dX8_touches_18 : decode cX8_touches 18 = .ok (.iload_n 1, 1) := by decide +kernel
theorem dX8_touches_19 : decode cX8_touches 19 = .ok (.invokevirtual 279, 3) := by decide +kernel
theorem dX8_touches_22 : decode cX8_touches 22 = .ok (.iload_n 2, 1) := by decide +kernel
theorem dX8_touches_23 : decode cX8_touches 23 = .ok (.if_icmp .ne 7, 3) := by decide +kernel
theorem dX8_touches_26 : decode cX8_touches 26 = .ok (.iconst 1, 1) := by decide +kernel
theorem dX8_touches_27 : decode cX8_touches 27 = .ok (.goto 4, 3) := by decide +kernel
theorem dX8_touches_30 : decode cX8_touches 30 = .ok (.iconst 0, 1) := by decide +kernel
theorem dX8_touches_31 : decode cX8_touches 31 = .ok (.ireturn, 1) := by decide +kernel
theorem dX8_lineProperty_0 : decode cX8_lineProperty 0 = .ok (.aload_n 0, 1) := by decide +kernel
theorem dX8_lineProperty_1 : decode cX8_lineProperty 1 = .ok (.aload_n 0, 1) := by decide +kernel
theorem dX8_lineProperty_2 : decode cX8_lineProperty 2 = .ok (.iload_n 1, 1) := by decide +kernel
theorem dX8_lineProperty_3 : decode cX8_lineProperty 3 = .ok (.invokevirtual 285, 3) := by decide +kernel
theorem dX8_lineProperty_6 : decode cX8_lineProperty 6 = .ok (.invokevirtual 234, 3) := by decide +kernel
theorem dX8_lineProperty_9 : decode cX8_lineProperty 9 = .ok (.ifCond .eq 5, 3) := by decide +kernel
theorem dX8_lineProperty_12 : decode cX8_lineProperty 12 = .ok (.iconst 0, 1) := by decide +kernel
theorem dX8_lineProperty_13 : decode cX8_lineProperty 13 = .ok (.ireturn, 1) := by decide +kernel
theorem dX8_lineProperty_14 : decode cX8_lineProperty 14 = .ok (.iload_n 2, 1) := by decide +kernel
theorem dX8_lineProperty_15 : decode cX8_lineProperty 15 = .ok (.tableswitch 91 0 6 #[41, 47, 53, 63, 69, 79, 85], 41) := by decide +kernel
theorem dX8_lineProperty_56 : decode cX8_lineProperty 56 = .ok (.aload_n 0, 1) := by decide +kernel
theorem dX8_lineProperty_57 : decode cX8_lineProperty 57 = .ok (.iload_n 1, 1) := by decide +kernel
theorem dX8_lineProperty_58 : decode cX8_lineProperty 58 = .ok (.invokevirtual 273, 3) := by decide +kernel
theorem dX8_lineProperty_61 : decode cX8_lineProperty 61 = .ok (.ireturn, 1) := by decide +kernel
theorem dX8_lineProperty_62 : decode cX8_lineProperty 62 = .ok (.aload_n 0, 1) := by decide +kernel
theorem dX8_lineProperty_63 : decode cX8_lineProperty 63 = .ok (.iload_n 1, 1) := by decide +kernel
theorem dX8_lineProperty_64 : decode cX8_lineProperty 64 = .ok (.invokevirtual 279, 3) := by decide +kernel
theorem dX8_lineProperty_67 : decode cX8_lineProperty 67 = .ok (.ireturn, 1) := by decide +kernel
theorem dX8_lineProperty_68 : decode cX8_lineProperty 68 = .ok (.aload_n 0, 1) := by decide +kernel
theorem dX8_lineProperty_69 : decode cX8_lineProperty 69 = .ok (.getfield 26, 3) := by decide +kernel
theorem dX8_lineProperty_72 : decode cX8_lineProperty 72 = .ok (.bipush 44, 2) := by decide +kernel
theorem dX8_lineProperty_74 : decode cX8_lineProperty 74 = .ok (.iload_n 1, 1) := by decide +kernel
theorem dX8_lineProperty_75 : decode cX8_lineProperty 75 = .ok (.iadd, 1) := by decide +kernel
theorem dX8_lineProperty_76 : decode cX8_lineProperty 76 = .ok (.iaload, 1) := by decide +kernel
theorem dX8_lineProperty_77 : decode cX8_lineProperty 77 = .ok (.ireturn, 1) := by decide +kernel
theorem dX8_lineProperty_78 : decode cX8_lineProperty 78 = .ok (.aload_n 0, 1) := by decide +kernel
theorem dX8_lineProperty_79 : decode cX8_lineProperty 79 = .ok (.iload_n 1, 1) := by decide +kernel
theorem dX8_lineProperty_80 : decode cX8_lineProperty 80 = .ok (.invokevirtual 254, 3) := by decide +kernel
theorem dX8_lineProperty_83 : decode cX8_lineProperty 83 = .ok (.ireturn, 1) := by decide +kernel
theorem dX8_lineProperty_84 : decode cX8_lineProperty 84 = .ok (.aload_n 0, 1) := by decide +kernel
theorem dX8_lineProperty_85 : decode cX8_lineProperty 85 = .ok (.getfield 7, 3) := by decide +kernel
theorem dX8_lineProperty_88 : decode cX8_lineProperty 88 = .ok (.bipush 22, 2) := by decide +kernel
theorem dX8_lineProperty_90 : decode cX8_lineProperty 90 = .ok (.iload_n 1, 1) := by decide +kernel
theorem dX8_lineProperty_91 : decode cX8_lineProperty 91 = .ok (.iadd, 1) := by decide +kernel
theorem dX8_lineProperty_92 : decode cX8_lineProperty 92 = .ok (.iaload, 1) := by decide +kernel
theorem dX8_lineProperty_93 : decode cX8_lineProperty 93 = .ok (.ireturn, 1) := by decide +kernel
theorem dX8_lineProperty_94 : decode cX8_lineProperty 94 = .ok (.aload_n 0, 1) := by decide +kernel
theorem dX8_lineProperty_95 : decode cX8_lineProperty 95 = .ok (.iload_n 1, 1) := by decide +kernel
theorem dX8_lineProperty_96 : decode cX8_lineProperty 96 = .ok (.invokevirtual 264, 3) := by decide +kernel
theorem dX8_lineProperty_99 : decode cX8_lineProperty 99 = .ok (.ireturn, 1) := by decide +kernel
theorem dX8_lineProperty_100 : decode cX8_lineProperty 100 = .ok (.aload_n 0, 1) := by decide +kernel
theorem dX8_lineProperty_101 : decode cX8_lineProperty 101 = .ok (.iload_n 1, 1) := by decide +kernel
theorem dX8_lineProperty_102 : decode cX8_lineProperty 102 = .ok (.invokevirtual 288, 3) := by decide +kernel
theorem dX8_lineProperty_105 : decode cX8_lineProperty 105 = .ok (.ireturn, 1) := by decide +kernel
theorem dX8_lineProperty_106 : decode cX8_lineProperty 106 = .ok (.bipush (-2), 2) := by decide +kernel
theorem dX8_lineProperty_108 : decode cX8_lineProperty 108 = .ok (.ireturn, 1) := by decide +kernel
theorem dX8_reading_0 : decode cX8_reading 0 = .ok (.aload_n 0, 1) := by decide +kernel
theorem dX8_reading_1 : decode cX8_reading 1 = .ok (.aload_n 0, 1) := by decide +kernel
theorem dX8_reading_2 : decode cX8_reading 2 = .ok (.iload_n 1, 1) := by decide +kernel
theorem dX8_reading_3 : decode cX8_reading 3 = .ok (.invokevirtual 285, 3) := by decide +kernel
theorem dX8_reading_6 : decode cX8_reading 6 = .ok (.invokevirtual 234, 3) := by decide +kernel
theorem dX8_reading_9 : decode cX8_reading 9 = .ok (.ifCond .eq 5, 3) := by decide +kernel
theorem dX8_reading_12 : decode cX8_reading 12 = .ok (.iconst 0, 1) := by decide +kernel
theorem dX8_reading_13 : decode cX8_reading 13 = .ok (.ireturn, 1) := by decide +kernel
theorem dX8_reading_14 : decode cX8_reading 14 = .ok (.iload_n 2, 1) := by decide +kernel
theorem dX8_reading_15 : decode cX8_reading 15 = .ok (.iconst 0, 1) := by decide +kernel
theorem dX8_reading_16 : decode cX8_reading 16 = .ok (.aload_n 0, 1) := by decide +kernel
theorem dX8_reading_17 : decode cX8_reading 17 = .ok (.iload_n 1, 1) := by decide +kernel
theorem dX8_reading_18 : decode cX8_reading 18 = .ok (.invokevirtual 254, 3) := by decide +kernel
theorem dX8_reading_21 : decode cX8_reading 21 = .ok (.iconst 1, 1) := by decide +kernel
theorem dX8_reading_22 : decode cX8_reading 22 = .ok (.isub, 1) := by decide +kernel
theorem dX8_reading_23 : decode cX8_reading 23 = .ok (.invokestatic 107, 3) := by decide +kernel
theorem dX8_reading_26 : decode cX8_reading 26 = .ok (.ifCond .ne 5, 3) := by decide +kernel
theorem dX8_reading_29 : decode cX8_reading 29 = .ok (.iconst (-1), 1) := by decide +kernel
theorem dX8_reading_30 : decode cX8_reading 30 = .ok (.ireturn, 1) := by decide +kernel
theorem dX8_reading_31 : decode cX8_reading 31 = .ok (.iload_n 3, 1) := by decide +kernel
theorem dX8_reading_32 : decode cX8_reading 32 = .ok (.iconst 0, 1) := by decide +kernel
theorem dX8_reading_33 : decode cX8_reading 33 = .ok (.iconst 3, 1) := by decide +kernel
theorem dX8_reading_34 : decode cX8_reading 34 = .ok (.invokestatic 107, 3) := by decide +kernel
theorem dX8_reading_37 : decode cX8_reading 37 = .ok (.ifCond .eq 13, 3) := by decide +kernel
theorem dX8_reading_40 : decode cX8_reading 40 = .ok (.aload_n 0, 1) := by decide +kernel
theorem dX8_reading_41 : decode cX8_reading 41 = .ok (.iload_n 1, 1) := by decide +kernel
theorem dX8_reading_42 : decode cX8_reading 42 = .ok (.iload_n 2, 1) := by decide +kernel
theorem dX8_reading_43 : decode cX8_reading 43 = .ok (.iload_n 3, 1) := by decide +kernel
theorem dX8_reading_44 : decode cX8_reading 44 = .ok (.invokevirtual 257, 3) := by decide +kernel
theorem dX8_reading_47 : decode cX8_reading 47 = .ok (.goto 5, 3) := by decide +kernel
theorem dX8_reading_50 : decode cX8_reading 50 = .ok (.bipush (-2), 2) := by decide +kernel
theorem dX8_reading_52 : decode cX8_reading 52 = .ok (.ireturn, 1) := by decide +kernel
theorem dX8_stepOf_0 : decode cX8_stepOf 0 = .ok (.aload_n 0, 1) := by decide +kernel
theorem dX8_stepOf_1 : decode cX8_stepOf 1 = .ok (.aload_n 0, 1) := by decide +kernel
theorem dX8_stepOf_2 : decode cX8_stepOf 2 = .ok (.iload_n 1, 1) := by decide +kernel
theorem dX8_stepOf_3 : decode cX8_stepOf 3 = .ok (.invokevirtual 285, 3) := by decide +kernel
theorem dX8_stepOf_6 : decode cX8_stepOf 6 = .ok (.invokevirtual 234, 3) := by decide +kernel
theorem dX8_stepOf_9 : decode cX8_stepOf 9 = .ok (.ifCond .eq 5, 3) := by decide +kernel
theorem dX8_stepOf_12 : decode cX8_stepOf 12 = .ok (.iconst 0, 1) := by decide +kernel
theorem dX8_stepOf_13 : decode cX8_stepOf 13 = .ok (.ireturn, 1) := by decide +kernel
theorem dX8_stepOf_14 : decode cX8_stepOf 14 = .ok (.iload_n 2, 1) := by decide +kernel
theorem dX8_stepOf_15 : decode cX8_stepOf 15 = .ok (.iconst 0, 1) := by decide +kernel
theorem dX8_stepOf_16 : decode cX8_stepOf 16 = .ok (.aload_n 0, 1) := by decide +kernel
theorem dX8_stepOf_17 : decode cX8_stepOf 17 = .ok (.iload_n 1, 1) := by decide +kernel
theorem dX8_stepOf_18 : decode cX8_stepOf 18 = .ok (.invokevirtual 254, 3) := by decide +kernel
theorem dX8_stepOf_21 : decode cX8_stepOf 21 = .ok (.iconst 1, 1) := by decide +kernel
theorem dX8_stepOf_22 : decode cX8_stepOf 22 = .ok (.isub, 1) := by decide +kernel
theorem dX8_stepOf_23 : decode cX8_stepOf 23 = .ok (.invokestatic 107, 3) := by decide +kernel
theorem dX8_stepOf_26 : decode cX8_stepOf 26 = .ok (.ifCond .eq 12, 3) := by decide +kernel
theorem dX8_stepOf_29 : decode cX8_stepOf 29 = .ok (.aload_n 0, 1) := by decide +kernel
theorem dX8_stepOf_30 : decode cX8_stepOf 30 = .ok (.iload_n 1, 1) := by decide +kernel
theorem dX8_stepOf_31 : decode cX8_stepOf 31 = .ok (.iload_n 2, 1) := by decide +kernel
theorem dX8_stepOf_32 : decode cX8_stepOf 32 = .ok (.invokevirtual 270, 3) := by decide +kernel
theorem dX8_stepOf_35 : decode cX8_stepOf 35 = .ok (.goto 5, 3) := by decide +kernel
theorem dX8_stepOf_38 : decode cX8_stepOf 38 = .ok (.ldc 241, 2) := by decide +kernel
theorem dX8_stepOf_40 : decode cX8_stepOf 40 = .ok (.ireturn, 1) := by decide +kernel
theorem dX8_riseOf_0 : decode cX8_riseOf 0 = .ok (.aload_n 0, 1) := by decide +kernel
theorem dX8_riseOf_1 : decode cX8_riseOf 1 = .ok (.aload_n 0, 1) := by decide +kernel
theorem dX8_riseOf_2 : decode cX8_riseOf 2 = .ok (.iload_n 1, 1) := by decide +kernel
theorem dX8_riseOf_3 : decode cX8_riseOf 3 = .ok (.invokevirtual 285, 3) := by decide +kernel
theorem dX8_riseOf_6 : decode cX8_riseOf 6 = .ok (.invokevirtual 234, 3) := by decide +kernel
theorem dX8_riseOf_9 : decode cX8_riseOf 9 = .ok (.ifCond .eq 7, 3) := by decide +kernel
theorem dX8_riseOf_12 : decode cX8_riseOf 12 = .ok (.iconst 0, 1) := by decide +kernel
theorem dX8_riseOf_13 : decode cX8_riseOf 13 = .ok (.goto 8, 3) := by decide +kernel
theorem dX8_riseOf_16 : decode cX8_riseOf 16 = .ok (.aload_n 0, 1) := by decide +kernel
theorem dX8_riseOf_17 : decode cX8_riseOf 17 = .ok (.iload_n 1, 1) := by decide +kernel
theorem dX8_riseOf_18 : decode cX8_riseOf 18 = .ok (.invokevirtual 276, 3) := by decide +kernel
theorem dX8_riseOf_21 : decode cX8_riseOf 21 = .ok (.ireturn, 1) := by decide +kernel
theorem dX8_collimationEffect_0 : decode cX8_collimationEffect 0 = .ok (.aload_n 0, 1) := by decide +kernel
theorem dX8_collimationEffect_1 : decode cX8_collimationEffect 1 = .ok (.aload_n 0, 1) := by decide +kernel
theorem dX8_collimationEffect_2 : decode cX8_collimationEffect 2 = .ok (.iload_n 1, 1) := by decide +kernel
theorem dX8_collimationEffect_3 : decode cX8_collimationEffect 3 = .ok (.invokevirtual 285, 3) := by decide +kernel
theorem dX8_collimationEffect_6 : decode cX8_collimationEffect 6 = .ok (.invokevirtual 234, 3) := by decide +kernel
theorem dX8_collimationEffect_9 : decode cX8_collimationEffect 9 = .ok (.ifCond .eq 7, 3) := by decide +kernel
theorem dX8_collimationEffect_12 : decode cX8_collimationEffect 12 = .ok (.iconst 0, 1) := by decide +kernel
theorem dX8_collimationEffect_13 : decode cX8_collimationEffect 13 = .ok (.goto 15, 3) := by decide +kernel
theorem dX8_collimationEffect_16 : decode cX8_collimationEffect 16 = .ok (.aload_n 0, 1) := by decide +kernel
theorem dX8_collimationEffect_17 : decode cX8_collimationEffect 17 = .ok (.iload_n 1, 1) := by decide +kernel
theorem dX8_collimationEffect_18 : decode cX8_collimationEffect 18 = .ok (.invokevirtual 267, 3) := by decide +kernel
theorem dX8_collimationEffect_21 : decode cX8_collimationEffect 21 = .ok (.ineg, 1) := by decide +kernel
theorem dX8_collimationEffect_22 : decode cX8_collimationEffect 22 = .ok (.aload_n 0, 1) := by decide +kernel
theorem dX8_collimationEffect_23 : decode cX8_collimationEffect 23 = .ok (.iload_n 1, 1) := by decide +kernel
theorem dX8_collimationEffect_24 : decode cX8_collimationEffect 24 = .ok (.invokevirtual 291, 3) := by decide +kernel
theorem dX8_collimationEffect_27 : decode cX8_collimationEffect 27 = .ok (.imul, 1) := by decide +kernel
theorem dX8_collimationEffect_28 : decode cX8_collimationEffect 28 = .ok (.ireturn, 1) := by decide +kernel
theorem dX8_imbalance_0 : decode cX8_imbalance 0 = .ok (.aload_n 0, 1) := by decide +kernel
theorem dX8_imbalance_1 : decode cX8_imbalance 1 = .ok (.aload_n 0, 1) := by decide +kernel
theorem dX8_imbalance_2 : decode cX8_imbalance 2 = .ok (.iload_n 1, 1) := by decide +kernel
theorem dX8_imbalance_3 : decode cX8_imbalance 3 = .ok (.invokevirtual 285, 3) := by decide +kernel
theorem dX8_imbalance_6 : decode cX8_imbalance 6 = .ok (.invokevirtual 234, 3) := by decide +kernel
theorem dX8_imbalance_9 : decode cX8_imbalance 9 = .ok (.ifCond .eq 7, 3) := by decide +kernel
theorem dX8_imbalance_12 : decode cX8_imbalance 12 = .ok (.iconst 0, 1) := by decide +kernel
theorem dX8_imbalance_13 : decode cX8_imbalance 13 = .ok (.goto 8, 3) := by decide +kernel
theorem dX8_imbalance_16 : decode cX8_imbalance 16 = .ok (.aload_n 0, 1) := by decide +kernel
theorem dX8_imbalance_17 : decode cX8_imbalance 17 = .ok (.iload_n 1, 1) := by decide +kernel
theorem dX8_imbalance_18 : decode cX8_imbalance 18 = .ok (.invokevirtual 291, 3) := by decide +kernel
theorem dX8_imbalance_21 : decode cX8_imbalance 21 = .ok (.ireturn, 1) := by decide +kernel
theorem dX8_faultsOf_0 : decode cX8_faultsOf 0 = .ok (.aload_n 0, 1) := by decide +kernel
theorem dX8_faultsOf_1 : decode cX8_faultsOf 1 = .ok (.aload_n 0, 1) := by decide +kernel
theorem dX8_faultsOf_2 : decode cX8_faultsOf 2 = .ok (.iload_n 1, 1) := by decide +kernel
theorem dX8_faultsOf_3 : decode cX8_faultsOf 3 = .ok (.invokevirtual 285, 3) := by decide +kernel
theorem dX8_faultsOf_6 : decode cX8_faultsOf 6 = .ok (.invokevirtual 234, 3) := by decide +kernel
theorem dX8_faultsOf_9 : decode cX8_faultsOf 9 = .ok (.ifCond .eq 5, 3) := by decide +kernel
theorem dX8_faultsOf_12 : decode cX8_faultsOf 12 = .ok (.iconst 0, 1) := by decide +kernel
theorem dX8_faultsOf_13 : decode cX8_faultsOf 13 = .ok (.ireturn, 1) := by decide +kernel
theorem dX8_faultsOf_14 : decode cX8_faultsOf 14 = .ok (.aload_n 0, 1) := by decide +kernel
theorem dX8_faultsOf_15 : decode cX8_faultsOf 15 = .ok (.iload_n 1, 1) := by decide +kernel
theorem dX8_faultsOf_16 : decode cX8_faultsOf 16 = .ok (.invokevirtual 291, 3) := by decide +kernel
theorem dX8_faultsOf_19 : decode cX8_faultsOf 19 = .ok (.i2l, 1) := by decide +kernel
theorem dX8_faultsOf_20 : decode cX8_faultsOf 20 = .ok (.invokestatic 294, 3) := by decide +kernel
theorem dX8_faultsOf_23 : decode cX8_faultsOf 23 = .ok (.aload_n 0, 1) := by decide +kernel
theorem dX8_faultsOf_24 : decode cX8_faultsOf 24 = .ok (.getfield 7, 3) := by decide +kernel
theorem dX8_faultsOf_27 : decode cX8_faultsOf 27 = .ok (.iconst 2, 1) := by decide +kernel
theorem dX8_faultsOf_28 : decode cX8_faultsOf 28 = .ok (.iaload, 1) := by decide +kernel
theorem dX8_faultsOf_29 : decode cX8_faultsOf 29 = .ok (.i2l, 1) := by decide +kernel
theorem dX8_faultsOf_30 : decode cX8_faultsOf 30 = .ok (.lcmp, 1) := by decide +kernel
theorem dX8_faultsOf_31 : decode cX8_faultsOf 31 = .ok (.ifCond .le 9, 3) := by decide +kernel
theorem dX8_faultsOf_34 : decode cX8_faultsOf 34 = .ok (.sipush 1000, 3) := by decide +kernel
theorem dX8_faultsOf_37 : decode cX8_faultsOf 37 = .ok (.goto 4, 3) := by decide +kernel
theorem dX8_faultsOf_40 : decode cX8_faultsOf 40 = .ok (.iconst 0, 1) := by decide +kernel
theorem dX8_faultsOf_41 : decode cX8_faultsOf 41 = .ok (.istore_n 2, 1) := by decide +kernel
theorem dX8_faultsOf_42 : decode cX8_faultsOf 42 = .ok (.iconst 0, 1) := by decide +kernel
theorem dX8_faultsOf_43 : decode cX8_faultsOf 43 = .ok (.istore_n 3, 1) := by decide +kernel
theorem dX8_faultsOf_44 : decode cX8_faultsOf 44 = .ok (.iload_n 3, 1) := by decide +kernel
theorem dX8_faultsOf_45 : decode cX8_faultsOf 45 = .ok (.aload_n 0, 1) := by decide +kernel
theorem dX8_faultsOf_46 : decode cX8_faultsOf 46 = .ok (.iload_n 1, 1) := by decide +kernel
theorem dX8_faultsOf_47 : decode cX8_faultsOf 47 = .ok (.invokevirtual 254, 3) := by decide +kernel
theorem dX8_faultsOf_50 : decode cX8_faultsOf 50 = .ok (.if_icmp .ge 57, 3) := by decide +kernel
theorem dX8_faultsOf_53 : decode cX8_faultsOf 53 = .ok (.iload_n 2, 1) := by decide +kernel
theorem dX8_faultsOf_54 : decode cX8_faultsOf 54 = .ok (.aload_n 0, 1) := by decide +kernel
theorem dX8_faultsOf_55 : decode cX8_faultsOf 55 = .ok (.iload_n 1, 1) := by decide +kernel
theorem dX8_faultsOf_56 : decode cX8_faultsOf 56 = .ok (.iload_n 3, 1) := by decide +kernel
theorem dX8_faultsOf_57 : decode cX8_faultsOf 57 = .ok (.iconst 2, 1) := by decide +kernel
theorem dX8_faultsOf_58 : decode cX8_faultsOf 58 = .ok (.invokevirtual 257, 3) := by decide +kernel
theorem dX8_faultsOf_61 : decode cX8_faultsOf 61 = .ok (.aload_n 0, 1) := by decide +kernel
theorem dX8_faultsOf_62 : decode cX8_faultsOf 62 = .ok (.getfield 7, 3) := by decide +kernel
theorem dX8_faultsOf_65 : decode cX8_faultsOf 65 = .ok (.iconst 1, 1) := by decide +kernel
theorem dX8_faultsOf_66 : decode cX8_faultsOf 66 = .ok (.iaload, 1) := by decide +kernel
theorem dX8_faultsOf_67 : decode cX8_faultsOf 67 = .ok (.if_icmp .le 7, 3) := by decide +kernel
theorem dX8_faultsOf_70 : decode cX8_faultsOf 70 = .ok (.iconst 1, 1) := by decide +kernel
theorem dX8_faultsOf_71 : decode cX8_faultsOf 71 = .ok (.goto 4, 3) := by decide +kernel
theorem dX8_faultsOf_74 : decode cX8_faultsOf 74 = .ok (.iconst 0, 1) := by decide +kernel
theorem dX8_faultsOf_75 : decode cX8_faultsOf 75 = .ok (.iadd, 1) := by decide +kernel
theorem dX8_faultsOf_76 : decode cX8_faultsOf 76 = .ok (.istore_n 2, 1) := by decide +kernel
theorem dX8_faultsOf_77 : decode cX8_faultsOf 77 = .ok (.iload_n 2, 1) := by decide +kernel
theorem dX8_faultsOf_78 : decode cX8_faultsOf 78 = .ok (.aload_n 0, 1) := by decide +kernel
theorem dX8_faultsOf_79 : decode cX8_faultsOf 79 = .ok (.iload_n 1, 1) := by decide +kernel
theorem dX8_faultsOf_80 : decode cX8_faultsOf 80 = .ok (.iload_n 3, 1) := by decide +kernel
theorem dX8_faultsOf_81 : decode cX8_faultsOf 81 = .ok (.iconst 3, 1) := by decide +kernel
theorem dX8_faultsOf_82 : decode cX8_faultsOf 82 = .ok (.invokevirtual 257, 3) := by decide +kernel
theorem dX8_faultsOf_85 : decode cX8_faultsOf 85 = .ok (.aload_n 0, 1) := by decide +kernel
theorem dX8_faultsOf_86 : decode cX8_faultsOf 86 = .ok (.getfield 7, 3) := by decide +kernel
theorem dX8_faultsOf_89 : decode cX8_faultsOf 89 = .ok (.iconst 1, 1) := by decide +kernel
theorem dX8_faultsOf_90 : decode cX8_faultsOf 90 = .ok (.iaload, 1) := by decide +kernel
theorem dX8_faultsOf_91 : decode cX8_faultsOf 91 = .ok (.if_icmp .le 7, 3) := by decide +kernel
theorem dX8_faultsOf_94 : decode cX8_faultsOf 94 = .ok (.iconst 1, 1) := by decide +kernel
theorem dX8_faultsOf_95 : decode cX8_faultsOf 95 = .ok (.goto 4, 3) := by decide +kernel
theorem dX8_faultsOf_98 : decode cX8_faultsOf 98 = .ok (.iconst 0, 1) := by decide +kernel
theorem dX8_faultsOf_99 : decode cX8_faultsOf 99 = .ok (.iadd, 1) := by decide +kernel
theorem dX8_faultsOf_100 : decode cX8_faultsOf 100 = .ok (.istore_n 2, 1) := by decide +kernel
theorem dX8_faultsOf_101 : decode cX8_faultsOf 101 = .ok (.iinc 3 1, 3) := by decide +kernel
theorem dX8_faultsOf_104 : decode cX8_faultsOf 104 = .ok (.goto (-60), 3) := by decide +kernel
theorem dX8_faultsOf_107 : decode cX8_faultsOf 107 = .ok (.iload_n 2, 1) := by decide +kernel
theorem dX8_faultsOf_108 : decode cX8_faultsOf 108 = .ok (.ireturn, 1) := by decide +kernel
def f_X8_thrown (μ : gM) : Option (Int32) :=
  some (gi μ 60 6)
set_option maxHeartbeats 4000000 in
set_option maxRecDepth 100000 in
theorem c_X8_thrown {l : Launch} {D : va_G} {cy : Nat → ClassId} {ad : Nat → Nat} {base : Nat}  {μ : gM} {RES : Int32} (h : f_X8_thrown  μ = some RES) : Met l yX8_thrown [.code yX8_thrown cX8_thrown 1 (some .int)] ({ frames := 0, cells := 0, slots := 0, locals := 0 } : Room) (va_Pc [.ref (ad 60)] (gB l gFull D cy ad base μ)) (gQ (some (.int RES)) gFull D cy ad base μ) 0 0 (gA base) := by
  refine Met.ofW (cc := cX8_thrown) (maxL := 1) (ret := (some .int)) (by decide) rfl ?_
  intro p e s m args below meth c s₁ B hml0 hv
  obtain ⟨rfl, E, hM⟩ := hv
  have F : gF p s m meth c cX8_thrown RX8 1 (some .int) := gF_of B hml0
  obtain ⟨hx, hb, hml, hown, hlocks, hr⟩ := id F
  have hS : va_S (gA base) s.heap s.heap [] := va_S.rf
  have hl := lv_entry ([.ref (ad 60)]) (n := 1) (Nat.le_of_ble_eq_true rfl)
  rw [lg_entry_eq]
  generalize (lg_sl ([.ref (ad 60)]) ++ List.replicate (1 - (lg_sl ([.ref (ad 60)])).length) Slot.unset).toArray = ls at hl ⊢
  have hl : lv_has ls 1 [(0, .ref (ad 60))] := hl
  unfold f_X8_thrown at h
  refine lv_aload_n hx hb dX8_thrown_0 rfl (lv_at hl 0 rfl) ?_
  refine gg_60_6 hx hb hown E hM hk_60 kw_1248 dX8_thrown_1 ?_
  obtain rfl := Option.some.inj h
  exact g_iret hx hb hr hlocks hM hS dX8_thrown_4
def f_X8_inRange (p1 : Int32) (p2 : Int32) (p3 : Int32) (μ : gM) : Option (Bool) :=
  if (p1 < p2) then some false else if (p3 < p1) then some false else some true
set_option maxHeartbeats 4000000 in
set_option maxRecDepth 100000 in
theorem c_X8_inRange {l : Launch} {D : va_G} {cy : Nat → ClassId} {ad : Nat → Nat} {base : Nat} {p1 : Int32} {p2 : Int32} {p3 : Int32} {μ : gM} {RES : Bool} (h : f_X8_inRange p1 p2 p3 μ = some RES) : Met l yX8_inRange [.code yX8_inRange cX8_inRange 3 (some .boolean)] ({ frames := 0, cells := 0, slots := 0, locals := 0 } : Room) (va_Pc [.int p1, .int p2, .int p3] (gB l gFull D cy ad base μ)) (gQ (some (.int (b2i RES))) gFull D cy ad base μ) 0 0 (gA base) := by
  refine Met.ofW (cc := cX8_inRange) (maxL := 3) (ret := (some .boolean)) (by decide) rfl ?_
  intro p e s m args below meth c s₁ B hml0 hv
  obtain ⟨rfl, E, hM⟩ := hv
  have F : gF p s m meth c cX8_inRange RX8 3 (some .boolean) := gF_of B hml0
  obtain ⟨hx, hb, hml, hown, hlocks, hr⟩ := id F
  have hS : va_S (gA base) s.heap s.heap [] := va_S.rf
  have hl := lv_entry ([.int p1, .int p2, .int p3]) (n := 3) (Nat.le_of_ble_eq_true rfl)
  rw [lg_entry_eq]
  generalize (lg_sl ([.int p1, .int p2, .int p3]) ++ List.replicate (3 - (lg_sl ([.int p1, .int p2, .int p3])).length) Slot.unset).toArray = ls at hl ⊢
  have hl : lv_has ls 3 [(0, .int p1), (1, .int p2), (2, .int p3)] := hl
  unfold f_X8_inRange at h
  refine lv_iload_n hx hb dX8_inRange_0 rfl (lv_at hl 0 rfl) ?_
  refine lv_iload_n hx hb dX8_inRange_1 rfl (lv_at hl 1 rfl) ?_
  refine lv_icmp_lt (tgt := 14) hx hb dX8_inRange_2 (by decide) (fun c1 => ?_) (fun c1 => ?_)
  · replace h := gif_t c1 h
    refine lv_iconst (v := (0 : Int32)) hx hb dX8_inRange_14 (by decide) ?_
    obtain rfl := Option.some.inj h
    exact g_zret (v := b2i false) hx hb hr hlocks (b2i_nar false) hM hS dX8_inRange_15
  · replace h := gif_f c1 h
    refine lv_iload_n hx hb dX8_inRange_5 rfl (lv_at hl 0 rfl) ?_
    refine lv_iload_n hx hb dX8_inRange_6 rfl (lv_at hl 2 rfl) ?_
    refine lv_icmp_gt (tgt := 14) hx hb dX8_inRange_7 (by decide) (fun c2 => ?_) (fun c2 => ?_)
    · replace h := gif_t c2 h
      refine lv_iconst (v := (0 : Int32)) hx hb dX8_inRange_14 (by decide) ?_
      obtain rfl := Option.some.inj h
      exact g_zret (v := b2i false) hx hb hr hlocks (b2i_nar false) hM hS dX8_inRange_15
    · replace h := gif_f c2 h
      refine lv_iconst (v := (1 : Int32)) hx hb dX8_inRange_10 (by decide) ?_
      refine lv_goto (tgt := 15) hx hb dX8_inRange_11 (by decide) ?_
      obtain rfl := Option.some.inj h
      exact g_zret (v := b2i true) hx hb hr hlocks (b2i_nar true) hM hS dX8_inRange_15
def f_X8_has (p1 : Int32) (p2 : Int32) (μ : gM) : Option (Bool) :=
  if (((p1 >>> (p2 &&& 31)) &&& (1 : Int32)) = (1 : Int32)) then some true else some false
set_option maxHeartbeats 4000000 in
set_option maxRecDepth 100000 in
theorem c_X8_has {l : Launch} {D : va_G} {cy : Nat → ClassId} {ad : Nat → Nat} {base : Nat} {p1 : Int32} {p2 : Int32} {μ : gM} {RES : Bool} (h : f_X8_has p1 p2 μ = some RES) : Met l yX8_has [.code yX8_has cX8_has 2 (some .boolean)] ({ frames := 0, cells := 0, slots := 0, locals := 0 } : Room) (va_Pc [.int p1, .int p2] (gB l gFull D cy ad base μ)) (gQ (some (.int (b2i RES))) gFull D cy ad base μ) 0 0 (gA base) := by
  refine Met.ofW (cc := cX8_has) (maxL := 2) (ret := (some .boolean)) (by decide) rfl ?_
  intro p e s m args below meth c s₁ B hml0 hv
  obtain ⟨rfl, E, hM⟩ := hv
  have F : gF p s m meth c cX8_has RX8 2 (some .boolean) := gF_of B hml0
  obtain ⟨hx, hb, hml, hown, hlocks, hr⟩ := id F
  have hS : va_S (gA base) s.heap s.heap [] := va_S.rf
  have hl := lv_entry ([.int p1, .int p2]) (n := 2) (Nat.le_of_ble_eq_true rfl)
  rw [lg_entry_eq]
  generalize (lg_sl ([.int p1, .int p2]) ++ List.replicate (2 - (lg_sl ([.int p1, .int p2])).length) Slot.unset).toArray = ls at hl ⊢
  have hl : lv_has ls 2 [(0, .int p1), (1, .int p2)] := hl
  unfold f_X8_has at h
  refine lv_iload_n hx hb dX8_has_0 rfl (lv_at hl 0 rfl) ?_
  refine lv_iload_n hx hb dX8_has_1 rfl (lv_at hl 1 rfl) ?_
  refine lv_ishr hx hb dX8_has_2 ?_
  refine lv_iconst (v := (1 : Int32)) hx hb dX8_has_3 (by decide) ?_
  refine lv_iand hx hb dX8_has_4 ?_
  refine lv_iconst (v := (1 : Int32)) hx hb dX8_has_5 (by decide) ?_
  refine lv_icmp_ne (tgt := 13) hx hb dX8_has_6 (by decide) (fun c1 => ?_) (fun c1 => ?_)
  · replace h := gif_f c1 h
    refine lv_iconst (v := (0 : Int32)) hx hb dX8_has_13 (by decide) ?_
    obtain rfl := Option.some.inj h
    exact g_zret (v := b2i false) hx hb hr hlocks (b2i_nar false) hM hS dX8_has_14
  · replace h := gif_t c1 h
    refine lv_iconst (v := (1 : Int32)) hx hb dX8_has_9 (by decide) ?_
    refine lv_goto (tgt := 14) hx hb dX8_has_10 (by decide) ?_
    obtain rfl := Option.some.inj h
    exact g_zret (v := b2i true) hx hb hr hlocks (b2i_nar true) hM hS dX8_has_14
def f_X8_size (p1 : Int64) (μ : gM) : Option (Int64) :=
  if ((0 : Int64) ≤ p1) then some p1 else some (-p1)
set_option maxHeartbeats 4000000 in
set_option maxRecDepth 100000 in
theorem c_X8_size {l : Launch} {D : va_G} {cy : Nat → ClassId} {ad : Nat → Nat} {base : Nat} {p1 : Int64} {μ : gM} {RES : Int64} (h : f_X8_size p1 μ = some RES) : Met l yX8_size [.code yX8_size cX8_size 2 (some .long)] ({ frames := 0, cells := 0, slots := 0, locals := 0 } : Room) (va_Pc [.long p1] (gB l gFull D cy ad base μ)) (gQ (some (.long RES)) gFull D cy ad base μ) 0 0 (gA base) := by
  refine Met.ofW (cc := cX8_size) (maxL := 2) (ret := (some .long)) (by decide) rfl ?_
  intro p e s m args below meth c s₁ B hml0 hv
  obtain ⟨rfl, E, hM⟩ := hv
  have F : gF p s m meth c cX8_size RX8 2 (some .long) := gF_of B hml0
  obtain ⟨hx, hb, hml, hown, hlocks, hr⟩ := id F
  have hS : va_S (gA base) s.heap s.heap [] := va_S.rf
  have hl := lv_entry ([.long p1]) (n := 2) (Nat.le_of_ble_eq_true rfl)
  rw [lg_entry_eq]
  generalize (lg_sl ([.long p1]) ++ List.replicate (2 - (lg_sl ([.long p1])).length) Slot.unset).toArray = ls at hl ⊢
  have hl : lv_has ls 2 [(0, .long p1)] := hl
  unfold f_X8_size at h
  refine lv_lload_n hx hb dX8_size_0 rfl (lv_at hl 0 rfl) ?_
  refine lv_lconst (v := (0 : Int64)) hx hb dX8_size_1 (by decide) ?_
  refine W.lcmp hx hb dX8_size_2 ?_
  refine lv_if_ge (tgt := 11) hx hb dX8_size_3 (by decide) (fun c1 => ?_) (fun c1 => ?_)
  · replace c1 := (lg_cmp_ge _ _).mp c1
    replace h := gif_t c1 h
    refine lv_lload_n hx hb dX8_size_11 rfl (lv_at hl 0 rfl) ?_
    obtain rfl := Option.some.inj h
    exact g_lret hx hb hr hlocks hM hS dX8_size_12
  · replace c1 := fun w => c1 ((lg_cmp_ge _ _).mpr w)
    replace h := gif_f c1 h
    refine lv_lload_n hx hb dX8_size_6 rfl (lv_at hl 0 rfl) ?_
    refine lv_lneg hx hb dX8_size_7 ?_
    refine lv_goto (tgt := 12) hx hb dX8_size_8 (by decide) ?_
    obtain rfl := Option.some.inj h
    exact g_lret hx hb hr hlocks hM hS dX8_size_12
def j_X8_fails_10 (x1 : Int32) (y1 : Int32) (μ : gM) : Option (Bool × gM) :=
  if (x1 = 0) then some (true, (si μ 60 6 y1)) else some (false, (si μ 60 6 y1))
set_option maxHeartbeats 4000000 in
set_option maxRecDepth 100000 in
theorem wj_X8_fails_10 {p : Program} {l : Launch} {e : Env} {s : State} {m : MethodId} {args : Array Value} {below : List Frame} {meth : Method} {c : Code} {D : va_G} {cy : Nat → ClassId} {ad : Nat → Nat} {base : Nat} {x1 : Int32} {y1 : Int32} {μ : gM} {o : Bool × gM} (h : j_X8_fails_10 x1 y1 μ = some o) (F : gF p s m meth c cX8_fails RX8 2 (some .boolean)) (E : gEnv l D cy ad base s)  {H : Heap} {locs : List Loc} {ls : Array Slot} (hM : gW gFull D cy ad base μ H) (hS : va_S (gA base) s.heap H locs) (hl : lv_has ls 2 [(1, .int x1)]) : W p l e ({ frames := 0, cells := 0, slots := 0, locals := 0 } : Room) s m args below meth c H locs 0 0 (MQ below (gQ (some (.int (b2i o.1))) gFull D cy ad base o.2) args s 0 0 (gA base)) (F0 m 10 ls [.int y1, .ref (ad 60)]) := by
  obtain ⟨hx, hb, hml, hown, hlocks, hr⟩ := id F
  unfold j_X8_fails_10 at h
  refine gp_60_6 hx hb hown E hM hS hk_60 kw_1248 dX8_fails_10 (fun H locs hM hS => ?_)
  refine lv_iload_n hx hb dX8_fails_13 rfl (lv_at hl 0 rfl) ?_
  refine lv_if_ne (tgt := 21) hx hb dX8_fails_14 (by decide) (fun c2 => ?_) (fun c2 => ?_)
  · replace h := gif_f c2 h
    refine lv_iconst (v := (0 : Int32)) hx hb dX8_fails_21 (by decide) ?_
    obtain rfl := Option.some.inj h
    exact g_zret (v := b2i false) hx hb hr hlocks (b2i_nar false) hM hS dX8_fails_22
  · replace h := gif_t c2 h
    refine lv_iconst (v := (1 : Int32)) hx hb dX8_fails_17 (by decide) ?_
    refine lv_goto (tgt := 22) hx hb dX8_fails_18 (by decide) ?_
    obtain rfl := Option.some.inj h
    exact g_zret (v := b2i true) hx hb hr hlocks (b2i_nar true) hM hS dX8_fails_22
def f_X8_fails (p1 : Int32) (μ : gM) : Option (Bool × gM) :=
  if (p1 = 0) then j_X8_fails_10 p1 (1 : Int32) μ else j_X8_fails_10 p1 (0 : Int32) μ
set_option maxHeartbeats 4000000 in
set_option maxRecDepth 100000 in
theorem c_X8_fails {l : Launch} {D : va_G} {cy : Nat → ClassId} {ad : Nat → Nat} {base : Nat} {p1 : Int32} {μ : gM} {RES : Bool × gM} (h : f_X8_fails p1 μ = some RES) : Met l yX8_fails [.code yX8_fails cX8_fails 2 (some .boolean)] ({ frames := 0, cells := 0, slots := 0, locals := 0 } : Room) (va_Pc [.ref (ad 60), .int p1] (gB l gFull D cy ad base μ)) (gQ (some (.int (b2i RES.1))) gFull D cy ad base RES.2) 0 0 (gA base) := by
  refine Met.ofW (cc := cX8_fails) (maxL := 2) (ret := (some .boolean)) (by decide) rfl ?_
  intro p e s m args below meth c s₁ B hml0 hv
  obtain ⟨rfl, E, hM⟩ := hv
  have F : gF p s m meth c cX8_fails RX8 2 (some .boolean) := gF_of B hml0
  obtain ⟨hx, hb, hml, hown, hlocks, hr⟩ := id F
  have hS : va_S (gA base) s.heap s.heap [] := va_S.rf
  have hl := lv_entry ([.ref (ad 60), .int p1]) (n := 2) (Nat.le_of_ble_eq_true rfl)
  rw [lg_entry_eq]
  generalize (lg_sl ([.ref (ad 60), .int p1]) ++ List.replicate (2 - (lg_sl ([.ref (ad 60), .int p1])).length) Slot.unset).toArray = ls at hl ⊢
  have hl : lv_has ls 2 [(0, .ref (ad 60)), (1, .int p1)] := hl
  unfold f_X8_fails at h
  refine lv_aload_n hx hb dX8_fails_0 rfl (lv_at hl 0 rfl) ?_
  refine lv_iload_n hx hb dX8_fails_1 rfl (lv_at hl 1 rfl) ?_
  refine lv_if_eq (tgt := 9) hx hb dX8_fails_2 (by decide) (fun c1 => ?_) (fun c1 => ?_)
  · replace h := gif_t c1 h
    refine lv_iconst (v := (1 : Int32)) hx hb dX8_fails_9 (by decide) ?_
    exact wj_X8_fails_10 h F E hM hS (lv_sub hl [1] rfl)
  · replace h := gif_f c1 h
    refine lv_iconst (v := (0 : Int32)) hx hb dX8_fails_5 (by decide) ?_
    refine lv_goto (tgt := 10) hx hb dX8_fails_6 (by decide) ?_
    exact wj_X8_fails_10 h F E hM hS (lv_sub hl [1] rfl)
def f_X8_leastOf (p1 : Int32) (μ : gM) : Option (Int32) :=
  if (p1 = (1 : Int32)) then some (1 : Int32) else some (0 : Int32)
set_option maxHeartbeats 4000000 in
set_option maxRecDepth 100000 in
theorem c_X8_leastOf {l : Launch} {D : va_G} {cy : Nat → ClassId} {ad : Nat → Nat} {base : Nat} {p1 : Int32} {μ : gM} {RES : Int32} (h : f_X8_leastOf p1 μ = some RES) : Met l yX8_leastOf [.code yX8_leastOf cX8_leastOf 1 (some .int)] ({ frames := 0, cells := 0, slots := 0, locals := 0 } : Room) (va_Pc [.int p1] (gB l gFull D cy ad base μ)) (gQ (some (.int RES)) gFull D cy ad base μ) 0 0 (gA base) := by
  refine Met.ofW (cc := cX8_leastOf) (maxL := 1) (ret := (some .int)) (by decide) rfl ?_
  intro p e s m args below meth c s₁ B hml0 hv
  obtain ⟨rfl, E, hM⟩ := hv
  have F : gF p s m meth c cX8_leastOf RX8 1 (some .int) := gF_of B hml0
  obtain ⟨hx, hb, hml, hown, hlocks, hr⟩ := id F
  have hS : va_S (gA base) s.heap s.heap [] := va_S.rf
  have hl := lv_entry ([.int p1]) (n := 1) (Nat.le_of_ble_eq_true rfl)
  rw [lg_entry_eq]
  generalize (lg_sl ([.int p1]) ++ List.replicate (1 - (lg_sl ([.int p1])).length) Slot.unset).toArray = ls at hl ⊢
  have hl : lv_has ls 1 [(0, .int p1)] := hl
  unfold f_X8_leastOf at h
  refine lv_iload_n hx hb dX8_leastOf_0 rfl (lv_at hl 0 rfl) ?_
  refine lv_iconst (v := (1 : Int32)) hx hb dX8_leastOf_1 (by decide) ?_
  refine lv_icmp_ne (tgt := 9) hx hb dX8_leastOf_2 (by decide) (fun c1 => ?_) (fun c1 => ?_)
  · replace h := gif_f c1 h
    refine lv_iconst (v := (0 : Int32)) hx hb dX8_leastOf_9 (by decide) ?_
    obtain rfl := Option.some.inj h
    exact g_iret hx hb hr hlocks hM hS dX8_leastOf_10
  · replace h := gif_t c1 h
    refine lv_iconst (v := (1 : Int32)) hx hb dX8_leastOf_5 (by decide) ?_
    refine lv_goto (tgt := 10) hx hb dX8_leastOf_6 (by decide) ?_
    obtain rfl := Option.some.inj h
    exact g_iret hx hb hr hlocks hM hS dX8_leastOf_10
def f_X8_mostOf (p1 : Int32) (μ : gM) : Option (Int32) :=
  if (p1 = 0) then some (500 : Int32) else if (p1 = (1 : Int32)) then some (100 : Int32) else some (800 : Int32)
set_option maxHeartbeats 4000000 in
set_option maxRecDepth 100000 in
theorem c_X8_mostOf {l : Launch} {D : va_G} {cy : Nat → ClassId} {ad : Nat → Nat} {base : Nat} {p1 : Int32} {μ : gM} {RES : Int32} (h : f_X8_mostOf p1 μ = some RES) : Met l yX8_mostOf [.code yX8_mostOf cX8_mostOf 1 (some .int)] ({ frames := 0, cells := 0, slots := 0, locals := 0 } : Room) (va_Pc [.int p1] (gB l gFull D cy ad base μ)) (gQ (some (.int RES)) gFull D cy ad base μ) 0 0 (gA base) := by
  refine Met.ofW (cc := cX8_mostOf) (maxL := 1) (ret := (some .int)) (by decide) rfl ?_
  intro p e s m args below meth c s₁ B hml0 hv
  obtain ⟨rfl, E, hM⟩ := hv
  have F : gF p s m meth c cX8_mostOf RX8 1 (some .int) := gF_of B hml0
  obtain ⟨hx, hb, hml, hown, hlocks, hr⟩ := id F
  have hS : va_S (gA base) s.heap s.heap [] := va_S.rf
  have hl := lv_entry ([.int p1]) (n := 1) (Nat.le_of_ble_eq_true rfl)
  rw [lg_entry_eq]
  generalize (lg_sl ([.int p1]) ++ List.replicate (1 - (lg_sl ([.int p1])).length) Slot.unset).toArray = ls at hl ⊢
  have hl : lv_has ls 1 [(0, .int p1)] := hl
  unfold f_X8_mostOf at h
  refine lv_iload_n hx hb dX8_mostOf_0 rfl (lv_at hl 0 rfl) ?_
  refine lv_if_ne (tgt := 10) hx hb dX8_mostOf_1 (by decide) (fun c1 => ?_) (fun c1 => ?_)
  · replace h := gif_f c1 h
    refine lv_iload_n hx hb dX8_mostOf_10 rfl (lv_at hl 0 rfl) ?_
    refine lv_iconst (v := (1 : Int32)) hx hb dX8_mostOf_11 (by decide) ?_
    refine lv_icmp_ne (tgt := 20) hx hb dX8_mostOf_12 (by decide) (fun c2 => ?_) (fun c2 => ?_)
    · replace h := gif_f c2 h
      refine lv_sipush (v := (800 : Int32)) hx hb dX8_mostOf_20 (by decide) ?_
      obtain rfl := Option.some.inj h
      exact g_iret hx hb hr hlocks hM hS dX8_mostOf_23
    · replace h := gif_t c2 h
      refine lv_bipush (v := (100 : Int32)) hx hb dX8_mostOf_15 (by decide) ?_
      refine lv_goto (tgt := 23) hx hb dX8_mostOf_17 (by decide) ?_
      obtain rfl := Option.some.inj h
      exact g_iret hx hb hr hlocks hM hS dX8_mostOf_23
  · replace h := gif_t c1 h
    refine lv_sipush (v := (500 : Int32)) hx hb dX8_mostOf_4 (by decide) ?_
    refine lv_goto (tgt := 23) hx hb dX8_mostOf_7 (by decide) ?_
    obtain rfl := Option.some.inj h
    exact g_iret hx hb hr hlocks hM hS dX8_mostOf_23
def f_X8_setupAt (p1 : Int32) (p2 : Int32) (p3 : Int32) (μ : gM) : Option (Int32) :=
  some ((((62 : Int32) + ((32 : Int32) * p1)) + ((4 : Int32) * p2)) + p3)
set_option maxHeartbeats 4000000 in
set_option maxRecDepth 100000 in
theorem c_X8_setupAt {l : Launch} {D : va_G} {cy : Nat → ClassId} {ad : Nat → Nat} {base : Nat} {p1 : Int32} {p2 : Int32} {p3 : Int32} {μ : gM} {RES : Int32} (h : f_X8_setupAt p1 p2 p3 μ = some RES) : Met l yX8_setupAt [.code yX8_setupAt cX8_setupAt 3 (some .int)] ({ frames := 0, cells := 0, slots := 0, locals := 0 } : Room) (va_Pc [.int p1, .int p2, .int p3] (gB l gFull D cy ad base μ)) (gQ (some (.int RES)) gFull D cy ad base μ) 0 0 (gA base) := by
  refine Met.ofW (cc := cX8_setupAt) (maxL := 3) (ret := (some .int)) (by decide) rfl ?_
  intro p e s m args below meth c s₁ B hml0 hv
  obtain ⟨rfl, E, hM⟩ := hv
  have F : gF p s m meth c cX8_setupAt RX8 3 (some .int) := gF_of B hml0
  obtain ⟨hx, hb, hml, hown, hlocks, hr⟩ := id F
  have hS : va_S (gA base) s.heap s.heap [] := va_S.rf
  have hl := lv_entry ([.int p1, .int p2, .int p3]) (n := 3) (Nat.le_of_ble_eq_true rfl)
  rw [lg_entry_eq]
  generalize (lg_sl ([.int p1, .int p2, .int p3]) ++ List.replicate (3 - (lg_sl ([.int p1, .int p2, .int p3])).length) Slot.unset).toArray = ls at hl ⊢
  have hl : lv_has ls 3 [(0, .int p1), (1, .int p2), (2, .int p3)] := hl
  unfold f_X8_setupAt at h
  refine lv_bipush (v := (62 : Int32)) hx hb dX8_setupAt_0 (by decide) ?_
  refine lv_bipush (v := (32 : Int32)) hx hb dX8_setupAt_2 (by decide) ?_
  refine lv_iload_n hx hb dX8_setupAt_4 rfl (lv_at hl 0 rfl) ?_
  refine lv_imul hx hb dX8_setupAt_5 ?_
  refine lv_iadd hx hb dX8_setupAt_6 ?_
  refine lv_iconst (v := (4 : Int32)) hx hb dX8_setupAt_7 (by decide) ?_
  refine lv_iload_n hx hb dX8_setupAt_8 rfl (lv_at hl 1 rfl) ?_
  refine lv_imul hx hb dX8_setupAt_9 ?_
  refine lv_iadd hx hb dX8_setupAt_10 ?_
  refine lv_iload_n hx hb dX8_setupAt_11 rfl (lv_at hl 2 rfl) ?_
  refine lv_iadd hx hb dX8_setupAt_12 ?_
  obtain rfl := Option.some.inj h
  exact g_iret hx hb hr hlocks hM hS dX8_setupAt_13
def b_X8_remember_85 (x1 : Int32) (μ : gM) : Option ((Int32 × gM) ⊕ (gM)) :=
  if ((703 : Int32) ≤ x1) then some (.inr μ) else gchk (gIn x1 703) (gchk (gIn (((gi μ 60 5) * (703 : Int32)) + x1) 5624) (some (.inl ((x1 + (1 : Int32)), (si μ 63 (((gi μ 60 5) * (703 : Int32)) + x1).toNatClampNeg (gi μ 61 x1.toNatClampNeg))))))
set_option maxHeartbeats 4000000 in
set_option maxRecDepth 100000 in
theorem wb_X8_remember_85 {p : Program} {l : Launch} {e : Env} {s : State} {m : MethodId} {args : Array Value} {below : List Frame} {meth : Method} {c : Code} {D : va_G} {cy : Nat → ClassId} {ad : Nat → Nat} {base : Nat} {x1 : Int32} {μ : gM} {o : (Int32 × gM) ⊕ (gM)} {RES : gM} (h : b_X8_remember_85 x1 μ = some o) (F : gF p s m meth c cX8_remember RX8 2 none) (E : gEnv l D cy ad base s) (kc : ∀ (t : Int32 × gM) {H : Heap} {locs : List Loc} {ls : Array Slot}, o = .inl t → gW gFull D cy ad base t.2 H → va_S (gA base) s.heap H locs → lv_has ls 2 [(0, .ref (ad 60)), (1, .int t.1)] → W p l e ({ frames := 0, cells := 0, slots := 0, locals := 0 } : Room) s m args below meth c H locs 0 0 (MQ below (gQ none gFull D cy ad base RES) args s 0 0 (gA base)) (F0 m 85 ls [])) (kx : ∀ (t : gM) {H : Heap} {locs : List Loc} {ls : Array Slot}, o = .inr t → gW gFull D cy ad base t H → va_S (gA base) s.heap H locs → lv_has ls 2 [(0, .ref (ad 60))] → W p l e ({ frames := 0, cells := 0, slots := 0, locals := 0 } : Room) s m args below meth c H locs 0 0 (MQ below (gQ none gFull D cy ad base RES) args s 0 0 (gA base)) (F0 m 119 ls []))  {H : Heap} {locs : List Loc} {ls : Array Slot} (hM : gW gFull D cy ad base μ H) (hS : va_S (gA base) s.heap H locs) (hl : lv_has ls 2 [(0, .ref (ad 60)), (1, .int x1)]) : W p l e ({ frames := 0, cells := 0, slots := 0, locals := 0 } : Room) s m args below meth c H locs 0 0 (MQ below (gQ none gFull D cy ad base RES) args s 0 0 (gA base)) (F0 m 85 ls []) := by
  obtain ⟨hx, hb, hml, hown, hlocks, hr⟩ := id F
  unfold b_X8_remember_85 at h
  refine lv_iload_n hx hb dX8_remember_85 rfl (lv_at hl 1 rfl) ?_
  refine lv_sipush (v := (703 : Int32)) hx hb dX8_remember_86 (by decide) ?_
  refine lv_icmp_ge (tgt := 119) hx hb dX8_remember_89 (by decide) (fun c2 => ?_) (fun c2 => ?_)
  · replace h := gif_t c2 h
    exact kx _ (Option.some.inj h).symm hM hS (lv_sub hl [0] rfl)
  · replace h := gif_f c2 h
    refine lv_aload_n hx hb dX8_remember_92 rfl (lv_at hl 0 rfl) ?_
    refine gg_60_2 hx hb hown E hM hk_60 kw_1244 dX8_remember_93 ?_
    refine lv_aload_n hx hb dX8_remember_96 rfl (lv_at hl 0 rfl) ?_
    refine gg_60_5 hx hb hown E hM hk_60 kw_1247 dX8_remember_97 ?_
    refine lv_sipush (v := (703 : Int32)) hx hb dX8_remember_100 (by decide) ?_
    refine lv_imul hx hb dX8_remember_103 ?_
    refine lv_iload_n hx hb dX8_remember_104 rfl (lv_at hl 1 rfl) ?_
    refine lv_iadd hx hb dX8_remember_105 ?_
    refine lv_aload_n hx hb dX8_remember_106 rfl (lv_at hl 0 rfl) ?_
    refine gg_60_0 hx hb hown E hM hk_60 kw_1242 dX8_remember_107 ?_
    refine lv_iload_n hx hb dX8_remember_110 rfl (lv_at hl 1 rfl) ?_
    obtain ⟨c3, h⟩ := gchk_e h
    refine g_iald hx hb E hM hk_61 dd_61 c3 dX8_remember_111 ?_
    obtain ⟨c4, h⟩ := gchk_e h
    refine g_iast hx hb E hM hS hk_63 dd_63 c4 dX8_remember_112 (fun H locs hM hS => ?_)
    refine lv_iinc (v := (x1 + (1 : Int32))) (lv' := [(1, .int (x1 + (1 : Int32))), (0, .ref (ad 60))]) hx hb dX8_remember_113 hl (k := 1) rfl rfl (by decide) rfl (fun ls hl => ?_)
    refine lv_goto (tgt := 85) hx hb dX8_remember_116 (by decide) ?_
    exact kc _ (Option.some.inj h).symm hM hS (lv_sub hl [1, 0] rfl)
set_option maxHeartbeats 4000000 in
theorem wl_X8_remember_85 {p : Program} {l : Launch} {e : Env} {s : State} {m : MethodId} {args : Array Value} {below : List Frame} {meth : Method} {c : Code} {D : va_G} {cy : Nat → ClassId} {ad : Nat → Nat} {base : Nat}  {r : gM} {RES : gM} (F : gF p s m meth c cX8_remember RX8 2 none) (E : gEnv l D cy ad base s) (kx : ∀ (t : gM) {H : Heap} {locs : List Loc} {ls : Array Slot}, r = t → gW gFull D cy ad base t H → va_S (gA base) s.heap H locs → lv_has ls 2 [(0, .ref (ad 60))] → W p l e ({ frames := 0, cells := 0, slots := 0, locals := 0 } : Room) s m args below meth c H locs 0 0 (MQ below (gQ none gFull D cy ad base RES) args s 0 0 (gA base)) (F0 m 119 ls []))  : ∀ (n : Nat) (x1 : Int32) (μ : gM), gloop (fun t => b_X8_remember_85  t.1 t.2) n (x1, μ) = some r → ∀ {H : Heap} {locs : List Loc} {ls : Array Slot}, gW gFull D cy ad base μ H → va_S (gA base) s.heap H locs → lv_has ls 2 [(0, .ref (ad 60)), (1, .int x1)] → W p l e ({ frames := 0, cells := 0, slots := 0, locals := 0 } : Room) s m args below meth c H locs 0 0 (MQ below (gQ none gFull D cy ad base RES) args s 0 0 (gA base)) (F0 m 85 ls []) := by
  intro n
  induction n with
  | zero =>
    intro x1 μ h
    exact (gloop_0 h).elim
  | succ n ih =>
    intro x1 μ h H locs ls hM hS hl
    obtain ⟨o, h0, hc, hq⟩ := gloop_s h
    have h1 : b_X8_remember_85 x1 μ = some o := h0
    exact wb_X8_remember_85 h1 F E (fun t H locs ls ho hM hS hl => ih t.1 t.2 (hc t ho) hM hS hl) (fun t H locs ls ho hM hS hl => kx t (hq _ ho).symm hM hS hl) hM hS hl
def b_X8_remember_121 (x1 : Int32) (μ : gM) : Option ((Int32 × gM) ⊕ (gM)) :=
  if ((16 : Int32) ≤ x1) then some (.inr μ) else gchk (gIn x1 16) (gchk (gIn (((gi μ 60 5) * (16 : Int32)) + x1) 128) (some (.inl ((x1 + (1 : Int32)), (sl μ 65 (((gi μ 60 5) * (16 : Int32)) + x1).toNatClampNeg (gl μ 64 x1.toNatClampNeg))))))
set_option maxHeartbeats 4000000 in
set_option maxRecDepth 100000 in
theorem wb_X8_remember_121 {p : Program} {l : Launch} {e : Env} {s : State} {m : MethodId} {args : Array Value} {below : List Frame} {meth : Method} {c : Code} {D : va_G} {cy : Nat → ClassId} {ad : Nat → Nat} {base : Nat} {x1 : Int32} {μ : gM} {o : (Int32 × gM) ⊕ (gM)} {RES : gM} (h : b_X8_remember_121 x1 μ = some o) (F : gF p s m meth c cX8_remember RX8 2 none) (E : gEnv l D cy ad base s) (kc : ∀ (t : Int32 × gM) {H : Heap} {locs : List Loc} {ls : Array Slot}, o = .inl t → gW gFull D cy ad base t.2 H → va_S (gA base) s.heap H locs → lv_has ls 2 [(0, .ref (ad 60)), (1, .int t.1)] → W p l e ({ frames := 0, cells := 0, slots := 0, locals := 0 } : Room) s m args below meth c H locs 0 0 (MQ below (gQ none gFull D cy ad base RES) args s 0 0 (gA base)) (F0 m 121 ls [])) (kx : ∀ (t : gM) {H : Heap} {locs : List Loc} {ls : Array Slot}, o = .inr t → gW gFull D cy ad base t H → va_S (gA base) s.heap H locs → lv_has ls 2 [(0, .ref (ad 60))] → W p l e ({ frames := 0, cells := 0, slots := 0, locals := 0 } : Room) s m args below meth c H locs 0 0 (MQ below (gQ none gFull D cy ad base RES) args s 0 0 (gA base)) (F0 m 153 ls []))  {H : Heap} {locs : List Loc} {ls : Array Slot} (hM : gW gFull D cy ad base μ H) (hS : va_S (gA base) s.heap H locs) (hl : lv_has ls 2 [(0, .ref (ad 60)), (1, .int x1)]) : W p l e ({ frames := 0, cells := 0, slots := 0, locals := 0 } : Room) s m args below meth c H locs 0 0 (MQ below (gQ none gFull D cy ad base RES) args s 0 0 (gA base)) (F0 m 121 ls []) := by
  obtain ⟨hx, hb, hml, hown, hlocks, hr⟩ := id F
  unfold b_X8_remember_121 at h
  refine lv_iload_n hx hb dX8_remember_121 rfl (lv_at hl 1 rfl) ?_
  refine lv_bipush (v := (16 : Int32)) hx hb dX8_remember_122 (by decide) ?_
  refine lv_icmp_ge (tgt := 153) hx hb dX8_remember_124 (by decide) (fun c6 => ?_) (fun c6 => ?_)
  · replace h := gif_t c6 h
    exact kx _ (Option.some.inj h).symm hM hS (lv_sub hl [0] rfl)
  · replace h := gif_f c6 h
    refine lv_aload_n hx hb dX8_remember_127 rfl (lv_at hl 0 rfl) ?_
    refine gg_60_4 hx hb hown E hM hk_60 kw_1246 dX8_remember_128 ?_
    refine lv_aload_n hx hb dX8_remember_131 rfl (lv_at hl 0 rfl) ?_
    refine gg_60_5 hx hb hown E hM hk_60 kw_1247 dX8_remember_132 ?_
    refine lv_bipush (v := (16 : Int32)) hx hb dX8_remember_135 (by decide) ?_
    refine lv_imul hx hb dX8_remember_137 ?_
    refine lv_iload_n hx hb dX8_remember_138 rfl (lv_at hl 1 rfl) ?_
    refine lv_iadd hx hb dX8_remember_139 ?_
    refine lv_aload_n hx hb dX8_remember_140 rfl (lv_at hl 0 rfl) ?_
    refine gg_60_3 hx hb hown E hM hk_60 kw_1245 dX8_remember_141 ?_
    refine lv_iload_n hx hb dX8_remember_144 rfl (lv_at hl 1 rfl) ?_
    obtain ⟨c7, h⟩ := gchk_e h
    refine g_lald hx hb E hM hk_64 dd_64 c7 dX8_remember_145 ?_
    obtain ⟨c8, h⟩ := gchk_e h
    refine g_last hx hb E hM hS hk_65 dd_65 c8 dX8_remember_146 (fun H locs hM hS => ?_)
    refine lv_iinc (v := (x1 + (1 : Int32))) (lv' := [(1, .int (x1 + (1 : Int32))), (0, .ref (ad 60))]) hx hb dX8_remember_147 hl (k := 1) rfl rfl (by decide) rfl (fun ls hl => ?_)
    refine lv_goto (tgt := 121) hx hb dX8_remember_150 (by decide) ?_
    exact kc _ (Option.some.inj h).symm hM hS (lv_sub hl [1, 0] rfl)
set_option maxHeartbeats 4000000 in
theorem wl_X8_remember_121 {p : Program} {l : Launch} {e : Env} {s : State} {m : MethodId} {args : Array Value} {below : List Frame} {meth : Method} {c : Code} {D : va_G} {cy : Nat → ClassId} {ad : Nat → Nat} {base : Nat}  {r : gM} {RES : gM} (F : gF p s m meth c cX8_remember RX8 2 none) (E : gEnv l D cy ad base s) (kx : ∀ (t : gM) {H : Heap} {locs : List Loc} {ls : Array Slot}, r = t → gW gFull D cy ad base t H → va_S (gA base) s.heap H locs → lv_has ls 2 [(0, .ref (ad 60))] → W p l e ({ frames := 0, cells := 0, slots := 0, locals := 0 } : Room) s m args below meth c H locs 0 0 (MQ below (gQ none gFull D cy ad base RES) args s 0 0 (gA base)) (F0 m 153 ls []))  : ∀ (n : Nat) (x1 : Int32) (μ : gM), gloop (fun t => b_X8_remember_121  t.1 t.2) n (x1, μ) = some r → ∀ {H : Heap} {locs : List Loc} {ls : Array Slot}, gW gFull D cy ad base μ H → va_S (gA base) s.heap H locs → lv_has ls 2 [(0, .ref (ad 60)), (1, .int x1)] → W p l e ({ frames := 0, cells := 0, slots := 0, locals := 0 } : Room) s m args below meth c H locs 0 0 (MQ below (gQ none gFull D cy ad base RES) args s 0 0 (gA base)) (F0 m 121 ls []) := by
  intro n
  induction n with
  | zero =>
    intro x1 μ h
    exact (gloop_0 h).elim
  | succ n ih =>
    intro x1 μ h H locs ls hM hS hl
    obtain ⟨o, h0, hc, hq⟩ := gloop_s h
    have h1 : b_X8_remember_121 x1 μ = some o := h0
    exact wb_X8_remember_121 h1 F E (fun t H locs ls ho hM hS hl => ih t.1 t.2 (hc t ho) hM hS hl) (fun t H locs ls ho hM hS hl => kx t (hq _ ho).symm hM hS hl) hM hS hl
def j_X8_remember_83  (μ : gM) : Option (gM) :=
  Option.bind (gloop (fun t => b_X8_remember_85  t.1 t.2) gFuel ((0 : Int32), μ)) (fun q5 => Option.bind (gloop (fun t => b_X8_remember_121  t.1 t.2) gFuel ((0 : Int32), q5)) (fun q9 => some (si q9 60 5 ((gi q9 60 5) + (1 : Int32)))))
set_option maxHeartbeats 4000000 in
set_option maxRecDepth 100000 in
theorem wj_X8_remember_83 {p : Program} {l : Launch} {e : Env} {s : State} {m : MethodId} {args : Array Value} {below : List Frame} {meth : Method} {c : Code} {D : va_G} {cy : Nat → ClassId} {ad : Nat → Nat} {base : Nat}  {μ : gM} {o : gM} (h : j_X8_remember_83  μ = some o) (F : gF p s m meth c cX8_remember RX8 2 none) (E : gEnv l D cy ad base s)  {H : Heap} {locs : List Loc} {ls : Array Slot} (hM : gW gFull D cy ad base μ H) (hS : va_S (gA base) s.heap H locs) (hl : lv_has ls 2 [(0, .ref (ad 60))]) : W p l e ({ frames := 0, cells := 0, slots := 0, locals := 0 } : Room) s m args below meth c H locs 0 0 (MQ below (gQ none gFull D cy ad base o) args s 0 0 (gA base)) (F0 m 83 ls []) := by
  obtain ⟨hx, hb, hml, hown, hlocks, hr⟩ := id F
  unfold j_X8_remember_83 at h
  refine lv_iconst (v := (0 : Int32)) hx hb dX8_remember_83 (by decide) ?_
  refine lv_istore_n (lv' := [(1, .int (0 : Int32)), (0, .ref (ad 60))]) hx hb dX8_remember_84 rfl hl (by decide) rfl (fun ls hl => ?_)
  obtain ⟨z11, h1, h⟩ := gbind_e h
  refine wl_X8_remember_85 F E (r := z11) (fun q5 H locs ls e1 hM hS hl => ?_) gFuel (0 : Int32) μ h1 hM hS (lv_sub hl [1, 0] rfl)
  replace e1 : z11 = q5 := e1
  rw [e1] at h
  refine lv_iconst (v := (0 : Int32)) hx hb dX8_remember_119 (by decide) ?_
  refine lv_istore_n (lv' := [(1, .int (0 : Int32)), (0, .ref (ad 60))]) hx hb dX8_remember_120 rfl hl (by decide) rfl (fun ls hl => ?_)
  obtain ⟨z10, h1, h⟩ := gbind_e h
  refine wl_X8_remember_121 F E (r := z10) (fun q9 H locs ls e1 hM hS hl => ?_) gFuel (0 : Int32) q5 h1 hM hS (lv_sub hl [1, 0] rfl)
  replace e1 : z10 = q9 := e1
  rw [e1] at h
  refine lv_aload_n hx hb dX8_remember_153 rfl (lv_at hl 0 rfl) ?_
  refine lv_dup hx hb dX8_remember_154 rfl ?_
  refine gg_60_5 hx hb hown E hM hk_60 kw_1247 dX8_remember_155 ?_
  refine lv_iconst (v := (1 : Int32)) hx hb dX8_remember_158 (by decide) ?_
  refine lv_iadd hx hb dX8_remember_159 ?_
  refine gp_60_5 hx hb hown E hM hS hk_60 kw_1247 dX8_remember_160 (fun H locs hM hS => ?_)
  obtain rfl := Option.some.inj h
  exact g_vret hx hb hr hlocks hM hS dX8_remember_163
def b_X8_remember_13 (x1 : Int32) (μ : gM) : Option ((Int32 × gM) ⊕ (gM)) :=
  if ((5624 : Int32) ≤ x1) then some (.inr μ) else gchk (gIn x1 5624) (gchk (gIn (x1 - (703 : Int32)) 5624) (some (.inl ((x1 + (1 : Int32)), (si μ 63 (x1 - (703 : Int32)).toNatClampNeg (gi μ 63 x1.toNatClampNeg))))))
set_option maxHeartbeats 4000000 in
set_option maxRecDepth 100000 in
theorem wb_X8_remember_13 {p : Program} {l : Launch} {e : Env} {s : State} {m : MethodId} {args : Array Value} {below : List Frame} {meth : Method} {c : Code} {D : va_G} {cy : Nat → ClassId} {ad : Nat → Nat} {base : Nat} {x1 : Int32} {μ : gM} {o : (Int32 × gM) ⊕ (gM)} {RES : gM} (h : b_X8_remember_13 x1 μ = some o) (F : gF p s m meth c cX8_remember RX8 2 none) (E : gEnv l D cy ad base s) (kc : ∀ (t : Int32 × gM) {H : Heap} {locs : List Loc} {ls : Array Slot}, o = .inl t → gW gFull D cy ad base t.2 H → va_S (gA base) s.heap H locs → lv_has ls 2 [(0, .ref (ad 60)), (1, .int t.1)] → W p l e ({ frames := 0, cells := 0, slots := 0, locals := 0 } : Room) s m args below meth c H locs 0 0 (MQ below (gQ none gFull D cy ad base RES) args s 0 0 (gA base)) (F0 m 13 ls [])) (kx : ∀ (t : gM) {H : Heap} {locs : List Loc} {ls : Array Slot}, o = .inr t → gW gFull D cy ad base t H → va_S (gA base) s.heap H locs → lv_has ls 2 [(0, .ref (ad 60))] → W p l e ({ frames := 0, cells := 0, slots := 0, locals := 0 } : Room) s m args below meth c H locs 0 0 (MQ below (gQ none gFull D cy ad base RES) args s 0 0 (gA base)) (F0 m 42 ls []))  {H : Heap} {locs : List Loc} {ls : Array Slot} (hM : gW gFull D cy ad base μ H) (hS : va_S (gA base) s.heap H locs) (hl : lv_has ls 2 [(0, .ref (ad 60)), (1, .int x1)]) : W p l e ({ frames := 0, cells := 0, slots := 0, locals := 0 } : Room) s m args below meth c H locs 0 0 (MQ below (gQ none gFull D cy ad base RES) args s 0 0 (gA base)) (F0 m 13 ls []) := by
  obtain ⟨hx, hb, hml, hown, hlocks, hr⟩ := id F
  unfold b_X8_remember_13 at h
  refine lv_iload_n hx hb dX8_remember_13 rfl (lv_at hl 1 rfl) ?_
  refine lv_sipush (v := (5624 : Int32)) hx hb dX8_remember_14 (by decide) ?_
  refine lv_icmp_ge (tgt := 42) hx hb dX8_remember_17 (by decide) (fun c12 => ?_) (fun c12 => ?_)
  · replace h := gif_t c12 h
    exact kx _ (Option.some.inj h).symm hM hS (lv_sub hl [0] rfl)
  · replace h := gif_f c12 h
    refine lv_aload_n hx hb dX8_remember_20 rfl (lv_at hl 0 rfl) ?_
    refine gg_60_2 hx hb hown E hM hk_60 kw_1244 dX8_remember_21 ?_
    refine lv_iload_n hx hb dX8_remember_24 rfl (lv_at hl 1 rfl) ?_
    refine lv_sipush (v := (703 : Int32)) hx hb dX8_remember_25 (by decide) ?_
    refine lv_isub hx hb dX8_remember_28 ?_
    refine lv_aload_n hx hb dX8_remember_29 rfl (lv_at hl 0 rfl) ?_
    refine gg_60_2 hx hb hown E hM hk_60 kw_1244 dX8_remember_30 ?_
    refine lv_iload_n hx hb dX8_remember_33 rfl (lv_at hl 1 rfl) ?_
    obtain ⟨c13, h⟩ := gchk_e h
    refine g_iald hx hb E hM hk_63 dd_63 c13 dX8_remember_34 ?_
    obtain ⟨c14, h⟩ := gchk_e h
    refine g_iast hx hb E hM hS hk_63 dd_63 c14 dX8_remember_35 (fun H locs hM hS => ?_)
    refine lv_iinc (v := (x1 + (1 : Int32))) (lv' := [(1, .int (x1 + (1 : Int32))), (0, .ref (ad 60))]) hx hb dX8_remember_36 hl (k := 1) rfl rfl (by decide) rfl (fun ls hl => ?_)
    refine lv_goto (tgt := 13) hx hb dX8_remember_39 (by decide) ?_
    exact kc _ (Option.some.inj h).symm hM hS (lv_sub hl [1, 0] rfl)
set_option maxHeartbeats 4000000 in
theorem wl_X8_remember_13 {p : Program} {l : Launch} {e : Env} {s : State} {m : MethodId} {args : Array Value} {below : List Frame} {meth : Method} {c : Code} {D : va_G} {cy : Nat → ClassId} {ad : Nat → Nat} {base : Nat}  {r : gM} {RES : gM} (F : gF p s m meth c cX8_remember RX8 2 none) (E : gEnv l D cy ad base s) (kx : ∀ (t : gM) {H : Heap} {locs : List Loc} {ls : Array Slot}, r = t → gW gFull D cy ad base t H → va_S (gA base) s.heap H locs → lv_has ls 2 [(0, .ref (ad 60))] → W p l e ({ frames := 0, cells := 0, slots := 0, locals := 0 } : Room) s m args below meth c H locs 0 0 (MQ below (gQ none gFull D cy ad base RES) args s 0 0 (gA base)) (F0 m 42 ls []))  : ∀ (n : Nat) (x1 : Int32) (μ : gM), gloop (fun t => b_X8_remember_13  t.1 t.2) n (x1, μ) = some r → ∀ {H : Heap} {locs : List Loc} {ls : Array Slot}, gW gFull D cy ad base μ H → va_S (gA base) s.heap H locs → lv_has ls 2 [(0, .ref (ad 60)), (1, .int x1)] → W p l e ({ frames := 0, cells := 0, slots := 0, locals := 0 } : Room) s m args below meth c H locs 0 0 (MQ below (gQ none gFull D cy ad base RES) args s 0 0 (gA base)) (F0 m 13 ls []) := by
  intro n
  induction n with
  | zero =>
    intro x1 μ h
    exact (gloop_0 h).elim
  | succ n ih =>
    intro x1 μ h H locs ls hM hS hl
    obtain ⟨o, h0, hc, hq⟩ := gloop_s h
    have h1 : b_X8_remember_13 x1 μ = some o := h0
    exact wb_X8_remember_13 h1 F E (fun t H locs ls ho hM hS hl => ih t.1 t.2 (hc t ho) hM hS hl) (fun t H locs ls ho hM hS hl => kx t (hq _ ho).symm hM hS hl) hM hS hl
def b_X8_remember_45 (x1 : Int32) (μ : gM) : Option ((Int32 × gM) ⊕ (gM)) :=
  if ((128 : Int32) ≤ x1) then some (.inr μ) else gchk (gIn x1 128) (gchk (gIn (x1 - (16 : Int32)) 128) (some (.inl ((x1 + (1 : Int32)), (sl μ 65 (x1 - (16 : Int32)).toNatClampNeg (gl μ 65 x1.toNatClampNeg))))))
set_option maxHeartbeats 4000000 in
set_option maxRecDepth 100000 in
theorem wb_X8_remember_45 {p : Program} {l : Launch} {e : Env} {s : State} {m : MethodId} {args : Array Value} {below : List Frame} {meth : Method} {c : Code} {D : va_G} {cy : Nat → ClassId} {ad : Nat → Nat} {base : Nat} {x1 : Int32} {μ : gM} {o : (Int32 × gM) ⊕ (gM)} {RES : gM} (h : b_X8_remember_45 x1 μ = some o) (F : gF p s m meth c cX8_remember RX8 2 none) (E : gEnv l D cy ad base s) (kc : ∀ (t : Int32 × gM) {H : Heap} {locs : List Loc} {ls : Array Slot}, o = .inl t → gW gFull D cy ad base t.2 H → va_S (gA base) s.heap H locs → lv_has ls 2 [(0, .ref (ad 60)), (1, .int t.1)] → W p l e ({ frames := 0, cells := 0, slots := 0, locals := 0 } : Room) s m args below meth c H locs 0 0 (MQ below (gQ none gFull D cy ad base RES) args s 0 0 (gA base)) (F0 m 45 ls [])) (kx : ∀ (t : gM) {H : Heap} {locs : List Loc} {ls : Array Slot}, o = .inr t → gW gFull D cy ad base t H → va_S (gA base) s.heap H locs → lv_has ls 2 [(0, .ref (ad 60))] → W p l e ({ frames := 0, cells := 0, slots := 0, locals := 0 } : Room) s m args below meth c H locs 0 0 (MQ below (gQ none gFull D cy ad base RES) args s 0 0 (gA base)) (F0 m 73 ls []))  {H : Heap} {locs : List Loc} {ls : Array Slot} (hM : gW gFull D cy ad base μ H) (hS : va_S (gA base) s.heap H locs) (hl : lv_has ls 2 [(0, .ref (ad 60)), (1, .int x1)]) : W p l e ({ frames := 0, cells := 0, slots := 0, locals := 0 } : Room) s m args below meth c H locs 0 0 (MQ below (gQ none gFull D cy ad base RES) args s 0 0 (gA base)) (F0 m 45 ls []) := by
  obtain ⟨hx, hb, hml, hown, hlocks, hr⟩ := id F
  unfold b_X8_remember_45 at h
  refine lv_iload_n hx hb dX8_remember_45 rfl (lv_at hl 1 rfl) ?_
  refine lv_sipush (v := (128 : Int32)) hx hb dX8_remember_46 (by decide) ?_
  refine lv_icmp_ge (tgt := 73) hx hb dX8_remember_49 (by decide) (fun c16 => ?_) (fun c16 => ?_)
  · replace h := gif_t c16 h
    exact kx _ (Option.some.inj h).symm hM hS (lv_sub hl [0] rfl)
  · replace h := gif_f c16 h
    refine lv_aload_n hx hb dX8_remember_52 rfl (lv_at hl 0 rfl) ?_
    refine gg_60_4 hx hb hown E hM hk_60 kw_1246 dX8_remember_53 ?_
    refine lv_iload_n hx hb dX8_remember_56 rfl (lv_at hl 1 rfl) ?_
    refine lv_bipush (v := (16 : Int32)) hx hb dX8_remember_57 (by decide) ?_
    refine lv_isub hx hb dX8_remember_59 ?_
    refine lv_aload_n hx hb dX8_remember_60 rfl (lv_at hl 0 rfl) ?_
    refine gg_60_4 hx hb hown E hM hk_60 kw_1246 dX8_remember_61 ?_
    refine lv_iload_n hx hb dX8_remember_64 rfl (lv_at hl 1 rfl) ?_
    obtain ⟨c17, h⟩ := gchk_e h
    refine g_lald hx hb E hM hk_65 dd_65 c17 dX8_remember_65 ?_
    obtain ⟨c18, h⟩ := gchk_e h
    refine g_last hx hb E hM hS hk_65 dd_65 c18 dX8_remember_66 (fun H locs hM hS => ?_)
    refine lv_iinc (v := (x1 + (1 : Int32))) (lv' := [(1, .int (x1 + (1 : Int32))), (0, .ref (ad 60))]) hx hb dX8_remember_67 hl (k := 1) rfl rfl (by decide) rfl (fun ls hl => ?_)
    refine lv_goto (tgt := 45) hx hb dX8_remember_70 (by decide) ?_
    exact kc _ (Option.some.inj h).symm hM hS (lv_sub hl [1, 0] rfl)
set_option maxHeartbeats 4000000 in
theorem wl_X8_remember_45 {p : Program} {l : Launch} {e : Env} {s : State} {m : MethodId} {args : Array Value} {below : List Frame} {meth : Method} {c : Code} {D : va_G} {cy : Nat → ClassId} {ad : Nat → Nat} {base : Nat}  {r : gM} {RES : gM} (F : gF p s m meth c cX8_remember RX8 2 none) (E : gEnv l D cy ad base s) (kx : ∀ (t : gM) {H : Heap} {locs : List Loc} {ls : Array Slot}, r = t → gW gFull D cy ad base t H → va_S (gA base) s.heap H locs → lv_has ls 2 [(0, .ref (ad 60))] → W p l e ({ frames := 0, cells := 0, slots := 0, locals := 0 } : Room) s m args below meth c H locs 0 0 (MQ below (gQ none gFull D cy ad base RES) args s 0 0 (gA base)) (F0 m 73 ls []))  : ∀ (n : Nat) (x1 : Int32) (μ : gM), gloop (fun t => b_X8_remember_45  t.1 t.2) n (x1, μ) = some r → ∀ {H : Heap} {locs : List Loc} {ls : Array Slot}, gW gFull D cy ad base μ H → va_S (gA base) s.heap H locs → lv_has ls 2 [(0, .ref (ad 60)), (1, .int x1)] → W p l e ({ frames := 0, cells := 0, slots := 0, locals := 0 } : Room) s m args below meth c H locs 0 0 (MQ below (gQ none gFull D cy ad base RES) args s 0 0 (gA base)) (F0 m 45 ls []) := by
  intro n
  induction n with
  | zero =>
    intro x1 μ h
    exact (gloop_0 h).elim
  | succ n ih =>
    intro x1 μ h H locs ls hM hS hl
    obtain ⟨o, h0, hc, hq⟩ := gloop_s h
    have h1 : b_X8_remember_45 x1 μ = some o := h0
    exact wb_X8_remember_45 h1 F E (fun t H locs ls ho hM hS hl => ih t.1 t.2 (hc t ho) hM hS hl) (fun t H locs ls ho hM hS hl => kx t (hq _ ho).symm hM hS hl) hM hS hl
def f_X8_remember (μ : gM) : Option (gM) :=
  if ((gi μ 60 5) = (8 : Int32)) then Option.bind (gloop (fun t => b_X8_remember_13  t.1 t.2) gFuel ((703 : Int32), μ)) (fun q15 => Option.bind (gloop (fun t => b_X8_remember_45  t.1 t.2) gFuel ((16 : Int32), q15)) (fun q19 => j_X8_remember_83  (si q19 60 5 ((gi q19 60 5) - (1 : Int32))))) else j_X8_remember_83  μ
set_option maxHeartbeats 4000000 in
set_option maxRecDepth 100000 in
theorem c_X8_remember {l : Launch} {D : va_G} {cy : Nat → ClassId} {ad : Nat → Nat} {base : Nat}  {μ : gM} {RES : gM} (h : f_X8_remember  μ = some RES) : Met l yX8_remember [.code yX8_remember cX8_remember 2 none] ({ frames := 0, cells := 0, slots := 0, locals := 0 } : Room) (va_Pc [.ref (ad 60)] (gB l gFull D cy ad base μ)) (gQ none gFull D cy ad base RES) 0 0 (gA base) := by
  refine Met.ofW (cc := cX8_remember) (maxL := 2) (ret := none) (by decide) rfl ?_
  intro p e s m args below meth c s₁ B hml0 hv
  obtain ⟨rfl, E, hM⟩ := hv
  have F : gF p s m meth c cX8_remember RX8 2 none := gF_of B hml0
  obtain ⟨hx, hb, hml, hown, hlocks, hr⟩ := id F
  have hS : va_S (gA base) s.heap s.heap [] := va_S.rf
  have hl := lv_entry ([.ref (ad 60)]) (n := 2) (Nat.le_of_ble_eq_true rfl)
  rw [lg_entry_eq]
  generalize (lg_sl ([.ref (ad 60)]) ++ List.replicate (2 - (lg_sl ([.ref (ad 60)])).length) Slot.unset).toArray = ls at hl ⊢
  have hl : lv_has ls 2 [(0, .ref (ad 60))] := hl
  unfold f_X8_remember at h
  refine lv_aload_n hx hb dX8_remember_0 rfl (lv_at hl 0 rfl) ?_
  refine gg_60_5 hx hb hown E hM hk_60 kw_1247 dX8_remember_1 ?_
  refine lv_bipush (v := (8 : Int32)) hx hb dX8_remember_4 (by decide) ?_
  refine lv_icmp_ne (tgt := 83) hx hb dX8_remember_6 (by decide) (fun c1 => ?_) (fun c1 => ?_)
  · replace h := gif_f c1 h
    exact wj_X8_remember_83 h F E hM hS hl
  · replace h := gif_t c1 h
    refine lv_sipush (v := (703 : Int32)) hx hb dX8_remember_9 (by decide) ?_
    refine lv_istore_n (lv' := [(1, .int (703 : Int32)), (0, .ref (ad 60))]) hx hb dX8_remember_12 rfl hl (by decide) rfl (fun ls hl => ?_)
    obtain ⟨z21, h1, h⟩ := gbind_e h
    refine wl_X8_remember_13 F E (r := z21) (fun q15 H locs ls e1 hM hS hl => ?_) gFuel (703 : Int32) μ h1 hM hS (lv_sub hl [1, 0] rfl)
    replace e1 : z21 = q15 := e1
    rw [e1] at h
    refine lv_bipush (v := (16 : Int32)) hx hb dX8_remember_42 (by decide) ?_
    refine lv_istore_n (lv' := [(1, .int (16 : Int32)), (0, .ref (ad 60))]) hx hb dX8_remember_44 rfl hl (by decide) rfl (fun ls hl => ?_)
    obtain ⟨z20, h1, h⟩ := gbind_e h
    refine wl_X8_remember_45 F E (r := z20) (fun q19 H locs ls e1 hM hS hl => ?_) gFuel (16 : Int32) q15 h1 hM hS (lv_sub hl [1, 0] rfl)
    replace e1 : z20 = q19 := e1
    rw [e1] at h
    refine lv_aload_n hx hb dX8_remember_73 rfl (lv_at hl 0 rfl) ?_
    refine lv_dup hx hb dX8_remember_74 rfl ?_
    refine gg_60_5 hx hb hown E hM hk_60 kw_1247 dX8_remember_75 ?_
    refine lv_iconst (v := (1 : Int32)) hx hb dX8_remember_78 (by decide) ?_
    refine lv_isub hx hb dX8_remember_79 ?_
    refine gp_60_5 hx hb hown E hM hS hk_60 kw_1247 dX8_remember_80 (fun H locs hM hS => ?_)
    exact wj_X8_remember_83 h F E hM hS hl
def f_X8_changes (μ : gM) : Option (gM) :=
  Option.bind (f_X8_remember  μ) (fun q1 => gchk (gIn (702 : Int32) 703) (some (si q1 61 (702 : Int32).toNatClampNeg (0 : Int32))))
set_option maxHeartbeats 4000000 in
set_option maxRecDepth 100000 in
theorem c_X8_changes {l : Launch} {D : va_G} {cy : Nat → ClassId} {ad : Nat → Nat} {base : Nat}  {μ : gM} {RES : gM} (h : f_X8_changes  μ = some RES) : Met l yX8_changes [.code yX8_changes cX8_changes 1 none] ({ frames := 1, cells := 0, slots := 0, locals := 21 } : Room) (va_Pc [.ref (ad 60)] (gB l gFull D cy ad base μ)) (gQ none gFull D cy ad base RES) 0 0 (gA base) := by
  refine Met.ofW (cc := cX8_changes) (maxL := 1) (ret := none) (by decide) rfl ?_
  intro p e s m args below meth c s₁ B hml0 hv
  obtain ⟨rfl, E, hM⟩ := hv
  have F : gF p s m meth c cX8_changes RX8 1 none := gF_of B hml0
  obtain ⟨hx, hb, hml, hown, hlocks, hr⟩ := id F
  have hS : va_S (gA base) s.heap s.heap [] := va_S.rf
  have hl := lv_entry ([.ref (ad 60)]) (n := 1) (Nat.le_of_ble_eq_true rfl)
  rw [lg_entry_eq]
  generalize (lg_sl ([.ref (ad 60)]) ++ List.replicate (1 - (lg_sl ([.ref (ad 60)])).length) Slot.unset).toArray = ls at hl ⊢
  have hl : lv_has ls 1 [(0, .ref (ad 60))] := hl
  unfold f_X8_changes at h
  refine lv_aload_n hx hb dX8_changes_0 rfl (lv_at hl 0 rfl) ?_
  obtain ⟨q1, hq1, h⟩ := gbind_e h
  refine g_callV (As := []) (rest := []) hx hb (hml.trans hl.1.symm) hown E hM hS hy_X8_remember kw_1865 (c_X8_remember hq1) hk_60 dd_60 rfl rfl rfl (Nat.le_of_ble_eq_true rfl) ⟨Nat.le_of_ble_eq_true rfl, Nat.le_of_ble_eq_true rfl⟩ ⟨Nat.le_of_ble_eq_true rfl, Nat.le_of_ble_eq_true rfl⟩ dX8_changes_1 (fun H locs hM hS => ?_)
  refine lv_aload_n hx hb dX8_changes_4 rfl (lv_at hl 0 rfl) ?_
  refine gg_60_0 hx hb hown E hM hk_60 kw_1242 dX8_changes_5 ?_
  refine lv_sipush (v := (702 : Int32)) hx hb dX8_changes_8 (by decide) ?_
  refine lv_iconst (v := (0 : Int32)) hx hb dX8_changes_11 (by decide) ?_
  obtain ⟨c2, h⟩ := gchk_e h
  refine g_iast hx hb E hM hS hk_61 dd_61 c2 dX8_changes_12 (fun H locs hM hS => ?_)
  obtain rfl := Option.some.inj h
  exact g_vret hx hb hr hlocks hM hS dX8_changes_13
def b_X8_undo_26 (x1 : Int32) (μ : gM) : Option ((Int32 × gM) ⊕ (gM)) :=
  if ((703 : Int32) ≤ x1) then some (.inr μ) else gchk (gIn (((gi μ 60 5) * (703 : Int32)) + x1) 5624) (gchk (gIn x1 703) (some (.inl ((x1 + (1 : Int32)), (si μ 61 x1.toNatClampNeg (gi μ 63 (((gi μ 60 5) * (703 : Int32)) + x1).toNatClampNeg))))))
set_option maxHeartbeats 4000000 in
set_option maxRecDepth 100000 in
theorem wb_X8_undo_26 {p : Program} {l : Launch} {e : Env} {s : State} {m : MethodId} {args : Array Value} {below : List Frame} {meth : Method} {c : Code} {D : va_G} {cy : Nat → ClassId} {ad : Nat → Nat} {base : Nat} {x1 : Int32} {μ : gM} {o : (Int32 × gM) ⊕ (gM)} {RES : Int32 × gM} (h : b_X8_undo_26 x1 μ = some o) (F : gF p s m meth c cX8_undo RX8 2 (some .int)) (E : gEnv l D cy ad base s) (kc : ∀ (t : Int32 × gM) {H : Heap} {locs : List Loc} {ls : Array Slot}, o = .inl t → gW gFull D cy ad base t.2 H → va_S (gA base) s.heap H locs → lv_has ls 2 [(0, .ref (ad 60)), (1, .int t.1)] → W p l e ({ frames := 0, cells := 0, slots := 0, locals := 0 } : Room) s m args below meth c H locs 0 0 (MQ below (gQ (some (.int RES.1)) gFull D cy ad base RES.2) args s 0 0 (gA base)) (F0 m 26 ls [])) (kx : ∀ (t : gM) {H : Heap} {locs : List Loc} {ls : Array Slot}, o = .inr t → gW gFull D cy ad base t H → va_S (gA base) s.heap H locs → lv_has ls 2 [(0, .ref (ad 60))] → W p l e ({ frames := 0, cells := 0, slots := 0, locals := 0 } : Room) s m args below meth c H locs 0 0 (MQ below (gQ (some (.int RES.1)) gFull D cy ad base RES.2) args s 0 0 (gA base)) (F0 m 60 ls []))  {H : Heap} {locs : List Loc} {ls : Array Slot} (hM : gW gFull D cy ad base μ H) (hS : va_S (gA base) s.heap H locs) (hl : lv_has ls 2 [(0, .ref (ad 60)), (1, .int x1)]) : W p l e ({ frames := 0, cells := 0, slots := 0, locals := 0 } : Room) s m args below meth c H locs 0 0 (MQ below (gQ (some (.int RES.1)) gFull D cy ad base RES.2) args s 0 0 (gA base)) (F0 m 26 ls []) := by
  obtain ⟨hx, hb, hml, hown, hlocks, hr⟩ := id F
  unfold b_X8_undo_26 at h
  refine lv_iload_n hx hb dX8_undo_26 rfl (lv_at hl 1 rfl) ?_
  refine lv_sipush (v := (703 : Int32)) hx hb dX8_undo_27 (by decide) ?_
  refine lv_icmp_ge (tgt := 60) hx hb dX8_undo_30 (by decide) (fun c2 => ?_) (fun c2 => ?_)
  · replace h := gif_t c2 h
    exact kx _ (Option.some.inj h).symm hM hS (lv_sub hl [0] rfl)
  · replace h := gif_f c2 h
    refine lv_aload_n hx hb dX8_undo_33 rfl (lv_at hl 0 rfl) ?_
    refine gg_60_0 hx hb hown E hM hk_60 kw_1242 dX8_undo_34 ?_
    refine lv_iload_n hx hb dX8_undo_37 rfl (lv_at hl 1 rfl) ?_
    refine lv_aload_n hx hb dX8_undo_38 rfl (lv_at hl 0 rfl) ?_
    refine gg_60_2 hx hb hown E hM hk_60 kw_1244 dX8_undo_39 ?_
    refine lv_aload_n hx hb dX8_undo_42 rfl (lv_at hl 0 rfl) ?_
    refine gg_60_5 hx hb hown E hM hk_60 kw_1247 dX8_undo_43 ?_
    refine lv_sipush (v := (703 : Int32)) hx hb dX8_undo_46 (by decide) ?_
    refine lv_imul hx hb dX8_undo_49 ?_
    refine lv_iload_n hx hb dX8_undo_50 rfl (lv_at hl 1 rfl) ?_
    refine lv_iadd hx hb dX8_undo_51 ?_
    obtain ⟨c3, h⟩ := gchk_e h
    refine g_iald hx hb E hM hk_63 dd_63 c3 dX8_undo_52 ?_
    obtain ⟨c4, h⟩ := gchk_e h
    refine g_iast hx hb E hM hS hk_61 dd_61 c4 dX8_undo_53 (fun H locs hM hS => ?_)
    refine lv_iinc (v := (x1 + (1 : Int32))) (lv' := [(1, .int (x1 + (1 : Int32))), (0, .ref (ad 60))]) hx hb dX8_undo_54 hl (k := 1) rfl rfl (by decide) rfl (fun ls hl => ?_)
    refine lv_goto (tgt := 26) hx hb dX8_undo_57 (by decide) ?_
    exact kc _ (Option.some.inj h).symm hM hS (lv_sub hl [1, 0] rfl)
set_option maxHeartbeats 4000000 in
theorem wl_X8_undo_26 {p : Program} {l : Launch} {e : Env} {s : State} {m : MethodId} {args : Array Value} {below : List Frame} {meth : Method} {c : Code} {D : va_G} {cy : Nat → ClassId} {ad : Nat → Nat} {base : Nat}  {r : gM} {RES : Int32 × gM} (F : gF p s m meth c cX8_undo RX8 2 (some .int)) (E : gEnv l D cy ad base s) (kx : ∀ (t : gM) {H : Heap} {locs : List Loc} {ls : Array Slot}, r = t → gW gFull D cy ad base t H → va_S (gA base) s.heap H locs → lv_has ls 2 [(0, .ref (ad 60))] → W p l e ({ frames := 0, cells := 0, slots := 0, locals := 0 } : Room) s m args below meth c H locs 0 0 (MQ below (gQ (some (.int RES.1)) gFull D cy ad base RES.2) args s 0 0 (gA base)) (F0 m 60 ls []))  : ∀ (n : Nat) (x1 : Int32) (μ : gM), gloop (fun t => b_X8_undo_26  t.1 t.2) n (x1, μ) = some r → ∀ {H : Heap} {locs : List Loc} {ls : Array Slot}, gW gFull D cy ad base μ H → va_S (gA base) s.heap H locs → lv_has ls 2 [(0, .ref (ad 60)), (1, .int x1)] → W p l e ({ frames := 0, cells := 0, slots := 0, locals := 0 } : Room) s m args below meth c H locs 0 0 (MQ below (gQ (some (.int RES.1)) gFull D cy ad base RES.2) args s 0 0 (gA base)) (F0 m 26 ls []) := by
  intro n
  induction n with
  | zero =>
    intro x1 μ h
    exact (gloop_0 h).elim
  | succ n ih =>
    intro x1 μ h H locs ls hM hS hl
    obtain ⟨o, h0, hc, hq⟩ := gloop_s h
    have h1 : b_X8_undo_26 x1 μ = some o := h0
    exact wb_X8_undo_26 h1 F E (fun t H locs ls ho hM hS hl => ih t.1 t.2 (hc t ho) hM hS hl) (fun t H locs ls ho hM hS hl => kx t (hq _ ho).symm hM hS hl) hM hS hl
def b_X8_undo_62 (x1 : Int32) (μ : gM) : Option ((Int32 × gM) ⊕ (gM)) :=
  if ((16 : Int32) ≤ x1) then some (.inr μ) else gchk (gIn (((gi μ 60 5) * (16 : Int32)) + x1) 128) (gchk (gIn x1 16) (some (.inl ((x1 + (1 : Int32)), (sl μ 64 x1.toNatClampNeg (gl μ 65 (((gi μ 60 5) * (16 : Int32)) + x1).toNatClampNeg))))))
set_option maxHeartbeats 4000000 in
set_option maxRecDepth 100000 in
theorem wb_X8_undo_62 {p : Program} {l : Launch} {e : Env} {s : State} {m : MethodId} {args : Array Value} {below : List Frame} {meth : Method} {c : Code} {D : va_G} {cy : Nat → ClassId} {ad : Nat → Nat} {base : Nat} {x1 : Int32} {μ : gM} {o : (Int32 × gM) ⊕ (gM)} {RES : Int32 × gM} (h : b_X8_undo_62 x1 μ = some o) (F : gF p s m meth c cX8_undo RX8 2 (some .int)) (E : gEnv l D cy ad base s) (kc : ∀ (t : Int32 × gM) {H : Heap} {locs : List Loc} {ls : Array Slot}, o = .inl t → gW gFull D cy ad base t.2 H → va_S (gA base) s.heap H locs → lv_has ls 2 [(0, .ref (ad 60)), (1, .int t.1)] → W p l e ({ frames := 0, cells := 0, slots := 0, locals := 0 } : Room) s m args below meth c H locs 0 0 (MQ below (gQ (some (.int RES.1)) gFull D cy ad base RES.2) args s 0 0 (gA base)) (F0 m 62 ls [])) (kx : ∀ (t : gM) {H : Heap} {locs : List Loc} {ls : Array Slot}, o = .inr t → gW gFull D cy ad base t H → va_S (gA base) s.heap H locs → lv_has ls 2 [(0, .ref (ad 60))] → W p l e ({ frames := 0, cells := 0, slots := 0, locals := 0 } : Room) s m args below meth c H locs 0 0 (MQ below (gQ (some (.int RES.1)) gFull D cy ad base RES.2) args s 0 0 (gA base)) (F0 m 94 ls []))  {H : Heap} {locs : List Loc} {ls : Array Slot} (hM : gW gFull D cy ad base μ H) (hS : va_S (gA base) s.heap H locs) (hl : lv_has ls 2 [(0, .ref (ad 60)), (1, .int x1)]) : W p l e ({ frames := 0, cells := 0, slots := 0, locals := 0 } : Room) s m args below meth c H locs 0 0 (MQ below (gQ (some (.int RES.1)) gFull D cy ad base RES.2) args s 0 0 (gA base)) (F0 m 62 ls []) := by
  obtain ⟨hx, hb, hml, hown, hlocks, hr⟩ := id F
  unfold b_X8_undo_62 at h
  refine lv_iload_n hx hb dX8_undo_62 rfl (lv_at hl 1 rfl) ?_
  refine lv_bipush (v := (16 : Int32)) hx hb dX8_undo_63 (by decide) ?_
  refine lv_icmp_ge (tgt := 94) hx hb dX8_undo_65 (by decide) (fun c6 => ?_) (fun c6 => ?_)
  · replace h := gif_t c6 h
    exact kx _ (Option.some.inj h).symm hM hS (lv_sub hl [0] rfl)
  · replace h := gif_f c6 h
    refine lv_aload_n hx hb dX8_undo_68 rfl (lv_at hl 0 rfl) ?_
    refine gg_60_3 hx hb hown E hM hk_60 kw_1245 dX8_undo_69 ?_
    refine lv_iload_n hx hb dX8_undo_72 rfl (lv_at hl 1 rfl) ?_
    refine lv_aload_n hx hb dX8_undo_73 rfl (lv_at hl 0 rfl) ?_
    refine gg_60_4 hx hb hown E hM hk_60 kw_1246 dX8_undo_74 ?_
    refine lv_aload_n hx hb dX8_undo_77 rfl (lv_at hl 0 rfl) ?_
    refine gg_60_5 hx hb hown E hM hk_60 kw_1247 dX8_undo_78 ?_
    refine lv_bipush (v := (16 : Int32)) hx hb dX8_undo_81 (by decide) ?_
    refine lv_imul hx hb dX8_undo_83 ?_
    refine lv_iload_n hx hb dX8_undo_84 rfl (lv_at hl 1 rfl) ?_
    refine lv_iadd hx hb dX8_undo_85 ?_
    obtain ⟨c7, h⟩ := gchk_e h
    refine g_lald hx hb E hM hk_65 dd_65 c7 dX8_undo_86 ?_
    obtain ⟨c8, h⟩ := gchk_e h
    refine g_last hx hb E hM hS hk_64 dd_64 c8 dX8_undo_87 (fun H locs hM hS => ?_)
    refine lv_iinc (v := (x1 + (1 : Int32))) (lv' := [(1, .int (x1 + (1 : Int32))), (0, .ref (ad 60))]) hx hb dX8_undo_88 hl (k := 1) rfl rfl (by decide) rfl (fun ls hl => ?_)
    refine lv_goto (tgt := 62) hx hb dX8_undo_91 (by decide) ?_
    exact kc _ (Option.some.inj h).symm hM hS (lv_sub hl [1, 0] rfl)
set_option maxHeartbeats 4000000 in
theorem wl_X8_undo_62 {p : Program} {l : Launch} {e : Env} {s : State} {m : MethodId} {args : Array Value} {below : List Frame} {meth : Method} {c : Code} {D : va_G} {cy : Nat → ClassId} {ad : Nat → Nat} {base : Nat}  {r : gM} {RES : Int32 × gM} (F : gF p s m meth c cX8_undo RX8 2 (some .int)) (E : gEnv l D cy ad base s) (kx : ∀ (t : gM) {H : Heap} {locs : List Loc} {ls : Array Slot}, r = t → gW gFull D cy ad base t H → va_S (gA base) s.heap H locs → lv_has ls 2 [(0, .ref (ad 60))] → W p l e ({ frames := 0, cells := 0, slots := 0, locals := 0 } : Room) s m args below meth c H locs 0 0 (MQ below (gQ (some (.int RES.1)) gFull D cy ad base RES.2) args s 0 0 (gA base)) (F0 m 94 ls []))  : ∀ (n : Nat) (x1 : Int32) (μ : gM), gloop (fun t => b_X8_undo_62  t.1 t.2) n (x1, μ) = some r → ∀ {H : Heap} {locs : List Loc} {ls : Array Slot}, gW gFull D cy ad base μ H → va_S (gA base) s.heap H locs → lv_has ls 2 [(0, .ref (ad 60)), (1, .int x1)] → W p l e ({ frames := 0, cells := 0, slots := 0, locals := 0 } : Room) s m args below meth c H locs 0 0 (MQ below (gQ (some (.int RES.1)) gFull D cy ad base RES.2) args s 0 0 (gA base)) (F0 m 62 ls []) := by
  intro n
  induction n with
  | zero =>
    intro x1 μ h
    exact (gloop_0 h).elim
  | succ n ih =>
    intro x1 μ h H locs ls hM hS hl
    obtain ⟨o, h0, hc, hq⟩ := gloop_s h
    have h1 : b_X8_undo_62 x1 μ = some o := h0
    exact wb_X8_undo_62 h1 F E (fun t H locs ls ho hM hS hl => ih t.1 t.2 (hc t ho) hM hS hl) (fun t H locs ls ho hM hS hl => kx t (hq _ ho).symm hM hS hl) hM hS hl
def f_X8_undo (μ : gM) : Option (Int32 × gM) :=
  if ((gi (si μ 60 6 (0 : Int32)) 60 5) = 0) then some ((-1 : Int32), (si μ 60 6 (0 : Int32))) else Option.bind (gloop (fun t => b_X8_undo_26  t.1 t.2) gFuel ((0 : Int32), (si (si μ 60 6 (0 : Int32)) 60 5 ((gi (si μ 60 6 (0 : Int32)) 60 5) - (1 : Int32))))) (fun q5 => Option.bind (gloop (fun t => b_X8_undo_62  t.1 t.2) gFuel ((0 : Int32), q5)) (fun q9 => some ((gi q9 60 5), q9)))
set_option maxHeartbeats 4000000 in
set_option maxRecDepth 100000 in
theorem c_X8_undo {l : Launch} {D : va_G} {cy : Nat → ClassId} {ad : Nat → Nat} {base : Nat}  {μ : gM} {RES : Int32 × gM} (h : f_X8_undo  μ = some RES) : Met l yX8_undo [.code yX8_undo cX8_undo 2 (some .int)] ({ frames := 0, cells := 0, slots := 0, locals := 0 } : Room) (va_Pc [.ref (ad 60)] (gB l gFull D cy ad base μ)) (gQ (some (.int RES.1)) gFull D cy ad base RES.2) 0 0 (gA base) := by
  refine Met.ofW (cc := cX8_undo) (maxL := 2) (ret := (some .int)) (by decide) rfl ?_
  intro p e s m args below meth c s₁ B hml0 hv
  obtain ⟨rfl, E, hM⟩ := hv
  have F : gF p s m meth c cX8_undo RX8 2 (some .int) := gF_of B hml0
  obtain ⟨hx, hb, hml, hown, hlocks, hr⟩ := id F
  have hS : va_S (gA base) s.heap s.heap [] := va_S.rf
  have hl := lv_entry ([.ref (ad 60)]) (n := 2) (Nat.le_of_ble_eq_true rfl)
  rw [lg_entry_eq]
  generalize (lg_sl ([.ref (ad 60)]) ++ List.replicate (2 - (lg_sl ([.ref (ad 60)])).length) Slot.unset).toArray = ls at hl ⊢
  have hl : lv_has ls 2 [(0, .ref (ad 60))] := hl
  unfold f_X8_undo at h
  refine lv_aload_n hx hb dX8_undo_0 rfl (lv_at hl 0 rfl) ?_
  refine lv_iconst (v := (0 : Int32)) hx hb dX8_undo_1 (by decide) ?_
  refine gp_60_6 hx hb hown E hM hS hk_60 kw_1248 dX8_undo_2 (fun H locs hM hS => ?_)
  refine lv_aload_n hx hb dX8_undo_5 rfl (lv_at hl 0 rfl) ?_
  refine gg_60_5 hx hb hown E hM hk_60 kw_1247 dX8_undo_6 ?_
  refine lv_if_ne (tgt := 14) hx hb dX8_undo_9 (by decide) (fun c1 => ?_) (fun c1 => ?_)
  · replace h := gif_f c1 h
    refine lv_aload_n hx hb dX8_undo_14 rfl (lv_at hl 0 rfl) ?_
    refine lv_dup hx hb dX8_undo_15 rfl ?_
    refine gg_60_5 hx hb hown E hM hk_60 kw_1247 dX8_undo_16 ?_
    refine lv_iconst (v := (1 : Int32)) hx hb dX8_undo_19 (by decide) ?_
    refine lv_isub hx hb dX8_undo_20 ?_
    refine gp_60_5 hx hb hown E hM hS hk_60 kw_1247 dX8_undo_21 (fun H locs hM hS => ?_)
    refine lv_iconst (v := (0 : Int32)) hx hb dX8_undo_24 (by decide) ?_
    refine lv_istore_n (lv' := [(1, .int (0 : Int32)), (0, .ref (ad 60))]) hx hb dX8_undo_25 rfl hl (by decide) rfl (fun ls hl => ?_)
    obtain ⟨z11, h1, h⟩ := gbind_e h
    refine wl_X8_undo_26 F E (r := z11) (fun q5 H locs ls e1 hM hS hl => ?_) gFuel (0 : Int32) (si (si μ 60 6 (0 : Int32)) 60 5 ((gi (si μ 60 6 (0 : Int32)) 60 5) - (1 : Int32))) h1 hM hS (lv_sub hl [1, 0] rfl)
    replace e1 : z11 = q5 := e1
    rw [e1] at h
    refine lv_iconst (v := (0 : Int32)) hx hb dX8_undo_60 (by decide) ?_
    refine lv_istore_n (lv' := [(1, .int (0 : Int32)), (0, .ref (ad 60))]) hx hb dX8_undo_61 rfl hl (by decide) rfl (fun ls hl => ?_)
    obtain ⟨z10, h1, h⟩ := gbind_e h
    refine wl_X8_undo_62 F E (r := z10) (fun q9 H locs ls e1 hM hS hl => ?_) gFuel (0 : Int32) q5 h1 hM hS (lv_sub hl [1, 0] rfl)
    replace e1 : z10 = q9 := e1
    rw [e1] at h
    refine lv_aload_n hx hb dX8_undo_94 rfl (lv_at hl 0 rfl) ?_
    refine gg_60_5 hx hb hown E hM hk_60 kw_1247 dX8_undo_95 ?_
    obtain rfl := Option.some.inj h
    exact g_iret hx hb hr hlocks hM hS dX8_undo_98
  · replace h := gif_t c1 h
    refine lv_iconst (v := (-1 : Int32)) hx hb dX8_undo_12 (by decide) ?_
    obtain rfl := Option.some.inj h
    exact g_iret hx hb hr hlocks hM hS dX8_undo_13
def f_X8_undoCount (μ : gM) : Option (Int32 × gM) :=
  some ((gi (si μ 60 6 (0 : Int32)) 60 5), (si μ 60 6 (0 : Int32)))
set_option maxHeartbeats 4000000 in
set_option maxRecDepth 100000 in
theorem c_X8_undoCount {l : Launch} {D : va_G} {cy : Nat → ClassId} {ad : Nat → Nat} {base : Nat}  {μ : gM} {RES : Int32 × gM} (h : f_X8_undoCount  μ = some RES) : Met l yX8_undoCount [.code yX8_undoCount cX8_undoCount 1 (some .int)] ({ frames := 0, cells := 0, slots := 0, locals := 0 } : Room) (va_Pc [.ref (ad 60)] (gB l gFull D cy ad base μ)) (gQ (some (.int RES.1)) gFull D cy ad base RES.2) 0 0 (gA base) := by
  refine Met.ofW (cc := cX8_undoCount) (maxL := 1) (ret := (some .int)) (by decide) rfl ?_
  intro p e s m args below meth c s₁ B hml0 hv
  obtain ⟨rfl, E, hM⟩ := hv
  have F : gF p s m meth c cX8_undoCount RX8 1 (some .int) := gF_of B hml0
  obtain ⟨hx, hb, hml, hown, hlocks, hr⟩ := id F
  have hS : va_S (gA base) s.heap s.heap [] := va_S.rf
  have hl := lv_entry ([.ref (ad 60)]) (n := 1) (Nat.le_of_ble_eq_true rfl)
  rw [lg_entry_eq]
  generalize (lg_sl ([.ref (ad 60)]) ++ List.replicate (1 - (lg_sl ([.ref (ad 60)])).length) Slot.unset).toArray = ls at hl ⊢
  have hl : lv_has ls 1 [(0, .ref (ad 60))] := hl
  unfold f_X8_undoCount at h
  refine lv_aload_n hx hb dX8_undoCount_0 rfl (lv_at hl 0 rfl) ?_
  refine lv_iconst (v := (0 : Int32)) hx hb dX8_undoCount_1 (by decide) ?_
  refine gp_60_6 hx hb hown E hM hS hk_60 kw_1248 dX8_undoCount_2 (fun H locs hM hS => ?_)
  refine lv_aload_n hx hb dX8_undoCount_5 rfl (lv_at hl 0 rfl) ?_
  refine gg_60_5 hx hb hown E hM hk_60 kw_1247 dX8_undoCount_6 ?_
  obtain rfl := Option.some.inj h
  exact g_iret hx hb hr hlocks hM hS dX8_undoCount_9
def b_X8_append_3 (x1 : Int32) (x2 : Int32) (μ : gM) : Option ((Int32 × gM) ⊕ (gM)) :=
  if (x2 < 0) then some (.inr μ) else gchk (gIn (gi μ 60 10) 1200) (some (.inl ((x2 + (-8 : Int32)), (si (si μ 68 (gi μ 60 10).toNatClampNeg (vp_nar .byte ((x1 >>> (x2 &&& 31)).toInt8.toInt32))) 60 10 ((gi (si μ 68 (gi μ 60 10).toNatClampNeg (vp_nar .byte ((x1 >>> (x2 &&& 31)).toInt8.toInt32))) 60 10) + (1 : Int32))))))
set_option maxHeartbeats 4000000 in
set_option maxRecDepth 100000 in
theorem wb_X8_append_3 {p : Program} {l : Launch} {e : Env} {s : State} {m : MethodId} {args : Array Value} {below : List Frame} {meth : Method} {c : Code} {D : va_G} {cy : Nat → ClassId} {ad : Nat → Nat} {base : Nat} {x1 : Int32} {x2 : Int32} {μ : gM} {o : (Int32 × gM) ⊕ (gM)} {RES : gM} (h : b_X8_append_3 x1 x2 μ = some o) (F : gF p s m meth c cX8_append RX8 3 none) (E : gEnv l D cy ad base s) (kc : ∀ (t : Int32 × gM) {H : Heap} {locs : List Loc} {ls : Array Slot}, o = .inl t → gW gFull D cy ad base t.2 H → va_S (gA base) s.heap H locs → lv_has ls 3 [(0, .ref (ad 60)), (1, .int x1), (2, .int t.1)] → W p l e ({ frames := 0, cells := 0, slots := 0, locals := 0 } : Room) s m args below meth c H locs 0 0 (MQ below (gQ none gFull D cy ad base RES) args s 0 0 (gA base)) (F0 m 3 ls [])) (kx : ∀ (t : gM) {H : Heap} {locs : List Loc} {ls : Array Slot}, o = .inr t → gW gFull D cy ad base t H → va_S (gA base) s.heap H locs → lv_has ls 3 [] → W p l e ({ frames := 0, cells := 0, slots := 0, locals := 0 } : Room) s m args below meth c H locs 0 0 (MQ below (gQ none gFull D cy ad base RES) args s 0 0 (gA base)) (F0 m 36 ls []))  {H : Heap} {locs : List Loc} {ls : Array Slot} (hM : gW gFull D cy ad base μ H) (hS : va_S (gA base) s.heap H locs) (hl : lv_has ls 3 [(0, .ref (ad 60)), (1, .int x1), (2, .int x2)]) : W p l e ({ frames := 0, cells := 0, slots := 0, locals := 0 } : Room) s m args below meth c H locs 0 0 (MQ below (gQ none gFull D cy ad base RES) args s 0 0 (gA base)) (F0 m 3 ls []) := by
  obtain ⟨hx, hb, hml, hown, hlocks, hr⟩ := id F
  unfold b_X8_append_3 at h
  refine lv_iload_n hx hb dX8_append_3 rfl (lv_at hl 2 rfl) ?_
  refine lv_if_lt (tgt := 36) hx hb dX8_append_4 (by decide) (fun c1 => ?_) (fun c1 => ?_)
  · replace h := gif_t c1 h
    exact kx _ (Option.some.inj h).symm hM hS (lv_sub hl [] rfl)
  · replace h := gif_f c1 h
    refine lv_aload_n hx hb dX8_append_7 rfl (lv_at hl 0 rfl) ?_
    refine gg_60_9 hx hb hown E hM hk_60 kw_1251 dX8_append_8 ?_
    refine lv_aload_n hx hb dX8_append_11 rfl (lv_at hl 0 rfl) ?_
    refine gg_60_10 hx hb hown E hM hk_60 kw_1252 dX8_append_12 ?_
    refine lv_iload_n hx hb dX8_append_15 rfl (lv_at hl 1 rfl) ?_
    refine lv_iload_n hx hb dX8_append_16 rfl (lv_at hl 2 rfl) ?_
    refine lv_ishr hx hb dX8_append_17 ?_
    refine lv_i2b (v := (x1 >>> (x2 &&& 31)).toInt8.toInt32) hx hb dX8_append_18 rfl ?_
    obtain ⟨c2, h⟩ := gchk_e h
    refine g_bast hx hb E hM hS hk_68 dd_68 c2 dX8_append_19 (fun H locs hM hS => ?_)
    refine lv_aload_n hx hb dX8_append_20 rfl (lv_at hl 0 rfl) ?_
    refine lv_dup hx hb dX8_append_21 rfl ?_
    refine gg_60_10 hx hb hown E hM hk_60 kw_1252 dX8_append_22 ?_
    refine lv_iconst (v := (1 : Int32)) hx hb dX8_append_25 (by decide) ?_
    refine lv_iadd hx hb dX8_append_26 ?_
    refine gp_60_10 hx hb hown E hM hS hk_60 kw_1252 dX8_append_27 (fun H locs hM hS => ?_)
    refine lv_iinc (v := (x2 + (-8 : Int32))) (lv' := [(2, .int (x2 + (-8 : Int32))), (0, .ref (ad 60)), (1, .int x1)]) hx hb dX8_append_30 hl (k := 2) rfl rfl (by decide) rfl (fun ls hl => ?_)
    refine lv_goto (tgt := 3) hx hb dX8_append_33 (by decide) ?_
    exact kc _ (Option.some.inj h).symm hM hS (lv_sub hl [1, 2, 0] rfl)
set_option maxHeartbeats 4000000 in
theorem wl_X8_append_3 {p : Program} {l : Launch} {e : Env} {s : State} {m : MethodId} {args : Array Value} {below : List Frame} {meth : Method} {c : Code} {D : va_G} {cy : Nat → ClassId} {ad : Nat → Nat} {base : Nat} {x1 : Int32} {r : gM} {RES : gM} (F : gF p s m meth c cX8_append RX8 3 none) (E : gEnv l D cy ad base s) (kx : ∀ (t : gM) {H : Heap} {locs : List Loc} {ls : Array Slot}, r = t → gW gFull D cy ad base t H → va_S (gA base) s.heap H locs → lv_has ls 3 [] → W p l e ({ frames := 0, cells := 0, slots := 0, locals := 0 } : Room) s m args below meth c H locs 0 0 (MQ below (gQ none gFull D cy ad base RES) args s 0 0 (gA base)) (F0 m 36 ls []))  : ∀ (n : Nat) (x2 : Int32) (μ : gM), gloop (fun t => b_X8_append_3 x1 t.1 t.2) n (x2, μ) = some r → ∀ {H : Heap} {locs : List Loc} {ls : Array Slot}, gW gFull D cy ad base μ H → va_S (gA base) s.heap H locs → lv_has ls 3 [(0, .ref (ad 60)), (1, .int x1), (2, .int x2)] → W p l e ({ frames := 0, cells := 0, slots := 0, locals := 0 } : Room) s m args below meth c H locs 0 0 (MQ below (gQ none gFull D cy ad base RES) args s 0 0 (gA base)) (F0 m 3 ls []) := by
  intro n
  induction n with
  | zero =>
    intro x2 μ h
    exact (gloop_0 h).elim
  | succ n ih =>
    intro x2 μ h H locs ls hM hS hl
    obtain ⟨o, h0, hc, hq⟩ := gloop_s h
    have h1 : b_X8_append_3 x1 x2 μ = some o := h0
    exact wb_X8_append_3 h1 F E (fun t H locs ls ho hM hS hl => ih t.1 t.2 (hc t ho) hM hS hl) (fun t H locs ls ho hM hS hl => kx t (hq _ ho).symm hM hS hl) hM hS hl
def f_X8_append (p1 : Int32) (μ : gM) : Option (gM) :=
  Option.bind (gloop (fun t => b_X8_append_3 p1 t.1 t.2) gFuel ((24 : Int32), μ)) (fun q3 => some q3)
set_option maxHeartbeats 4000000 in
set_option maxRecDepth 100000 in
theorem c_X8_append {l : Launch} {D : va_G} {cy : Nat → ClassId} {ad : Nat → Nat} {base : Nat} {p1 : Int32} {μ : gM} {RES : gM} (h : f_X8_append p1 μ = some RES) : Met l yX8_append [.code yX8_append cX8_append 3 none] ({ frames := 0, cells := 0, slots := 0, locals := 0 } : Room) (va_Pc [.ref (ad 60), .int p1] (gB l gFull D cy ad base μ)) (gQ none gFull D cy ad base RES) 0 0 (gA base) := by
  refine Met.ofW (cc := cX8_append) (maxL := 3) (ret := none) (by decide) rfl ?_
  intro p e s m args below meth c s₁ B hml0 hv
  obtain ⟨rfl, E, hM⟩ := hv
  have F : gF p s m meth c cX8_append RX8 3 none := gF_of B hml0
  obtain ⟨hx, hb, hml, hown, hlocks, hr⟩ := id F
  have hS : va_S (gA base) s.heap s.heap [] := va_S.rf
  have hl := lv_entry ([.ref (ad 60), .int p1]) (n := 3) (Nat.le_of_ble_eq_true rfl)
  rw [lg_entry_eq]
  generalize (lg_sl ([.ref (ad 60), .int p1]) ++ List.replicate (3 - (lg_sl ([.ref (ad 60), .int p1])).length) Slot.unset).toArray = ls at hl ⊢
  have hl : lv_has ls 3 [(0, .ref (ad 60)), (1, .int p1)] := hl
  unfold f_X8_append at h
  refine lv_bipush (v := (24 : Int32)) hx hb dX8_append_0 (by decide) ?_
  refine lv_istore_n (lv' := [(2, .int (24 : Int32)), (0, .ref (ad 60)), (1, .int p1)]) hx hb dX8_append_2 rfl hl (by decide) rfl (fun ls hl => ?_)
  obtain ⟨z4, h1, h⟩ := gbind_e h
  refine wl_X8_append_3 F E (r := z4) (fun q3 H locs ls e1 hM hS hl => ?_) gFuel (24 : Int32) μ h1 hM hS (lv_sub hl [1, 2, 0] rfl)
  replace e1 : z4 = q3 := e1
  rw [e1] at h
  obtain rfl := Option.some.inj h
  exact g_vret hx hb hr hlocks hM hS dX8_append_36
def f_X8_feed (p1 : Int32) (p2 : Int32) (p3 : Int32) (p4 : Int32) (p5 : Int32) (μ : gM) : Option (Int32 × gM) :=
  if (((gi (si μ 60 6 (0 : Int32)) 60 10) + (20 : Int32)) ≤ (1200 : Int32)) then Option.bind (f_X8_append p1 (si μ 60 6 (0 : Int32))) (fun q2 => Option.bind (f_X8_append p2 q2) (fun q3 => Option.bind (f_X8_append p3 q3) (fun q4 => Option.bind (f_X8_append p4 q4) (fun q5 => Option.bind (f_X8_append p5 q5) (fun q6 => some ((gi q6 60 10), q6)))))) else some ((-3 : Int32), (si μ 60 6 (0 : Int32)))
set_option maxHeartbeats 4000000 in
set_option maxRecDepth 100000 in
theorem c_X8_feed {l : Launch} {D : va_G} {cy : Nat → ClassId} {ad : Nat → Nat} {base : Nat} {p1 : Int32} {p2 : Int32} {p3 : Int32} {p4 : Int32} {p5 : Int32} {μ : gM} {RES : Int32 × gM} (h : f_X8_feed p1 p2 p3 p4 p5 μ = some RES) : Met l yX8_feed [.code yX8_feed cX8_feed 6 (some .int)] ({ frames := 1, cells := 0, slots := 0, locals := 22 } : Room) (va_Pc [.ref (ad 60), .int p1, .int p2, .int p3, .int p4, .int p5] (gB l gFull D cy ad base μ)) (gQ (some (.int RES.1)) gFull D cy ad base RES.2) 0 0 (gA base) := by
  refine Met.ofW (cc := cX8_feed) (maxL := 6) (ret := (some .int)) (by decide) rfl ?_
  intro p e s m args below meth c s₁ B hml0 hv
  obtain ⟨rfl, E, hM⟩ := hv
  have F : gF p s m meth c cX8_feed RX8 6 (some .int) := gF_of B hml0
  obtain ⟨hx, hb, hml, hown, hlocks, hr⟩ := id F
  have hS : va_S (gA base) s.heap s.heap [] := va_S.rf
  have hl := lv_entry ([.ref (ad 60), .int p1, .int p2, .int p3, .int p4, .int p5]) (n := 6) (Nat.le_of_ble_eq_true rfl)
  rw [lg_entry_eq]
  generalize (lg_sl ([.ref (ad 60), .int p1, .int p2, .int p3, .int p4, .int p5]) ++ List.replicate (6 - (lg_sl ([.ref (ad 60), .int p1, .int p2, .int p3, .int p4, .int p5])).length) Slot.unset).toArray = ls at hl ⊢
  have hl : lv_has ls 6 [(0, .ref (ad 60)), (1, .int p1), (2, .int p2), (3, .int p3), (4, .int p4), (5, .int p5)] := hl
  unfold f_X8_feed at h
  refine lv_aload_n hx hb dX8_feed_0 rfl (lv_at hl 0 rfl) ?_
  refine lv_iconst (v := (0 : Int32)) hx hb dX8_feed_1 (by decide) ?_
  refine gp_60_6 hx hb hown E hM hS hk_60 kw_1248 dX8_feed_2 (fun H locs hM hS => ?_)
  refine lv_aload_n hx hb dX8_feed_5 rfl (lv_at hl 0 rfl) ?_
  refine gg_60_10 hx hb hown E hM hk_60 kw_1252 dX8_feed_6 ?_
  refine lv_bipush (v := (20 : Int32)) hx hb dX8_feed_9 (by decide) ?_
  refine lv_iadd hx hb dX8_feed_11 ?_
  refine lv_sipush (v := (1200 : Int32)) hx hb dX8_feed_12 (by decide) ?_
  refine lv_icmp_le (tgt := 21) hx hb dX8_feed_15 (by decide) (fun c1 => ?_) (fun c1 => ?_)
  · replace h := gif_t c1 h
    refine lv_aload_n hx hb dX8_feed_21 rfl (lv_at hl 0 rfl) ?_
    refine lv_iload_n hx hb dX8_feed_22 rfl (lv_at hl 1 rfl) ?_
    obtain ⟨q2, hq2, h⟩ := gbind_e h
    refine g_callV (As := [.int p1]) (rest := []) hx hb (hml.trans hl.1.symm) hown E hM hS hy_X8_append kw_1367 (c_X8_append hq2) hk_60 dd_60 rfl rfl rfl (Nat.le_of_ble_eq_true rfl) ⟨Nat.le_of_ble_eq_true rfl, Nat.le_of_ble_eq_true rfl⟩ ⟨Nat.le_of_ble_eq_true rfl, Nat.le_of_ble_eq_true rfl⟩ dX8_feed_23 (fun H locs hM hS => ?_)
    refine lv_aload_n hx hb dX8_feed_26 rfl (lv_at hl 0 rfl) ?_
    refine lv_iload_n hx hb dX8_feed_27 rfl (lv_at hl 2 rfl) ?_
    obtain ⟨q3, hq3, h⟩ := gbind_e h
    refine g_callV (As := [.int p2]) (rest := []) hx hb (hml.trans hl.1.symm) hown E hM hS hy_X8_append kw_1367 (c_X8_append hq3) hk_60 dd_60 rfl rfl rfl (Nat.le_of_ble_eq_true rfl) ⟨Nat.le_of_ble_eq_true rfl, Nat.le_of_ble_eq_true rfl⟩ ⟨Nat.le_of_ble_eq_true rfl, Nat.le_of_ble_eq_true rfl⟩ dX8_feed_28 (fun H locs hM hS => ?_)
    refine lv_aload_n hx hb dX8_feed_31 rfl (lv_at hl 0 rfl) ?_
    refine lv_iload_n hx hb dX8_feed_32 rfl (lv_at hl 3 rfl) ?_
    obtain ⟨q4, hq4, h⟩ := gbind_e h
    refine g_callV (As := [.int p3]) (rest := []) hx hb (hml.trans hl.1.symm) hown E hM hS hy_X8_append kw_1367 (c_X8_append hq4) hk_60 dd_60 rfl rfl rfl (Nat.le_of_ble_eq_true rfl) ⟨Nat.le_of_ble_eq_true rfl, Nat.le_of_ble_eq_true rfl⟩ ⟨Nat.le_of_ble_eq_true rfl, Nat.le_of_ble_eq_true rfl⟩ dX8_feed_33 (fun H locs hM hS => ?_)
    refine lv_aload_n hx hb dX8_feed_36 rfl (lv_at hl 0 rfl) ?_
    refine lv_iload hx hb dX8_feed_37 (lv_at hl 4 rfl) ?_
    obtain ⟨q5, hq5, h⟩ := gbind_e h
    refine g_callV (As := [.int p4]) (rest := []) hx hb (hml.trans hl.1.symm) hown E hM hS hy_X8_append kw_1367 (c_X8_append hq5) hk_60 dd_60 rfl rfl rfl (Nat.le_of_ble_eq_true rfl) ⟨Nat.le_of_ble_eq_true rfl, Nat.le_of_ble_eq_true rfl⟩ ⟨Nat.le_of_ble_eq_true rfl, Nat.le_of_ble_eq_true rfl⟩ dX8_feed_39 (fun H locs hM hS => ?_)
    refine lv_aload_n hx hb dX8_feed_42 rfl (lv_at hl 0 rfl) ?_
    refine lv_iload hx hb dX8_feed_43 (lv_at hl 5 rfl) ?_
    obtain ⟨q6, hq6, h⟩ := gbind_e h
    refine g_callV (As := [.int p5]) (rest := []) hx hb (hml.trans hl.1.symm) hown E hM hS hy_X8_append kw_1367 (c_X8_append hq6) hk_60 dd_60 rfl rfl rfl (Nat.le_of_ble_eq_true rfl) ⟨Nat.le_of_ble_eq_true rfl, Nat.le_of_ble_eq_true rfl⟩ ⟨Nat.le_of_ble_eq_true rfl, Nat.le_of_ble_eq_true rfl⟩ dX8_feed_45 (fun H locs hM hS => ?_)
    refine lv_aload_n hx hb dX8_feed_48 rfl (lv_at hl 0 rfl) ?_
    refine gg_60_10 hx hb hown E hM hk_60 kw_1252 dX8_feed_49 ?_
    obtain rfl := Option.some.inj h
    exact g_iret hx hb hr hlocks hM hS dX8_feed_52
  · replace h := gif_f c1 h
    refine lv_bipush (v := (-3 : Int32)) hx hb dX8_feed_18 (by decide) ?_
    obtain rfl := Option.some.inj h
    exact g_iret hx hb hr hlocks hM hS dX8_feed_20
def f_X8_errorPosition (μ : gM) : Option (Int32 × gM) :=
  some ((gi (si μ 60 6 (0 : Int32)) 60 18), (si μ 60 6 (0 : Int32)))
set_option maxHeartbeats 4000000 in
set_option maxRecDepth 100000 in
theorem c_X8_errorPosition {l : Launch} {D : va_G} {cy : Nat → ClassId} {ad : Nat → Nat} {base : Nat}  {μ : gM} {RES : Int32 × gM} (h : f_X8_errorPosition  μ = some RES) : Met l yX8_errorPosition [.code yX8_errorPosition cX8_errorPosition 1 (some .int)] ({ frames := 0, cells := 0, slots := 0, locals := 0 } : Room) (va_Pc [.ref (ad 60)] (gB l gFull D cy ad base μ)) (gQ (some (.int RES.1)) gFull D cy ad base RES.2) 0 0 (gA base) := by
  refine Met.ofW (cc := cX8_errorPosition) (maxL := 1) (ret := (some .int)) (by decide) rfl ?_
  intro p e s m args below meth c s₁ B hml0 hv
  obtain ⟨rfl, E, hM⟩ := hv
  have F : gF p s m meth c cX8_errorPosition RX8 1 (some .int) := gF_of B hml0
  obtain ⟨hx, hb, hml, hown, hlocks, hr⟩ := id F
  have hS : va_S (gA base) s.heap s.heap [] := va_S.rf
  have hl := lv_entry ([.ref (ad 60)]) (n := 1) (Nat.le_of_ble_eq_true rfl)
  rw [lg_entry_eq]
  generalize (lg_sl ([.ref (ad 60)]) ++ List.replicate (1 - (lg_sl ([.ref (ad 60)])).length) Slot.unset).toArray = ls at hl ⊢
  have hl : lv_has ls 1 [(0, .ref (ad 60))] := hl
  unfold f_X8_errorPosition at h
  refine lv_aload_n hx hb dX8_errorPosition_0 rfl (lv_at hl 0 rfl) ?_
  refine lv_iconst (v := (0 : Int32)) hx hb dX8_errorPosition_1 (by decide) ?_
  refine gp_60_6 hx hb hown E hM hS hk_60 kw_1248 dX8_errorPosition_2 (fun H locs hM hS => ?_)
  refine lv_aload_n hx hb dX8_errorPosition_5 rfl (lv_at hl 0 rfl) ?_
  refine gg_60_18 hx hb hown E hM hk_60 kw_1260 dX8_errorPosition_6 ?_
  obtain rfl := Option.some.inj h
  exact g_iret hx hb hr hlocks hM hS dX8_errorPosition_9
def f_X8_peek (μ : gM) : Option (Int32) :=
  if ((gi μ 60 11) ≤ (gi μ 60 12)) then some (-1 : Int32) else gchk (gIn (gi μ 60 12) 1200) (some ((gi μ 68 (gi μ 60 12).toNatClampNeg) &&& (255 : Int32)))
set_option maxHeartbeats 4000000 in
set_option maxRecDepth 100000 in
theorem c_X8_peek {l : Launch} {D : va_G} {cy : Nat → ClassId} {ad : Nat → Nat} {base : Nat}  {μ : gM} {RES : Int32} (h : f_X8_peek  μ = some RES) : Met l yX8_peek [.code yX8_peek cX8_peek 1 (some .int)] ({ frames := 0, cells := 0, slots := 0, locals := 0 } : Room) (va_Pc [.ref (ad 60)] (gB l gFull D cy ad base μ)) (gQ (some (.int RES)) gFull D cy ad base μ) 0 0 (gA base) := by
  refine Met.ofW (cc := cX8_peek) (maxL := 1) (ret := (some .int)) (by decide) rfl ?_
  intro p e s m args below meth c s₁ B hml0 hv
  obtain ⟨rfl, E, hM⟩ := hv
  have F : gF p s m meth c cX8_peek RX8 1 (some .int) := gF_of B hml0
  obtain ⟨hx, hb, hml, hown, hlocks, hr⟩ := id F
  have hS : va_S (gA base) s.heap s.heap [] := va_S.rf
  have hl := lv_entry ([.ref (ad 60)]) (n := 1) (Nat.le_of_ble_eq_true rfl)
  rw [lg_entry_eq]
  generalize (lg_sl ([.ref (ad 60)]) ++ List.replicate (1 - (lg_sl ([.ref (ad 60)])).length) Slot.unset).toArray = ls at hl ⊢
  have hl : lv_has ls 1 [(0, .ref (ad 60))] := hl
  unfold f_X8_peek at h
  refine lv_aload_n hx hb dX8_peek_0 rfl (lv_at hl 0 rfl) ?_
  refine gg_60_12 hx hb hown E hM hk_60 kw_1254 dX8_peek_1 ?_
  refine lv_aload_n hx hb dX8_peek_4 rfl (lv_at hl 0 rfl) ?_
  refine gg_60_11 hx hb hown E hM hk_60 kw_1253 dX8_peek_5 ?_
  refine lv_icmp_ge (tgt := 27) hx hb dX8_peek_8 (by decide) (fun c1 => ?_) (fun c1 => ?_)
  · replace h := gif_t c1 h
    refine lv_iconst (v := (-1 : Int32)) hx hb dX8_peek_27 (by decide) ?_
    obtain rfl := Option.some.inj h
    exact g_iret hx hb hr hlocks hM hS dX8_peek_28
  · replace h := gif_f c1 h
    refine lv_aload_n hx hb dX8_peek_11 rfl (lv_at hl 0 rfl) ?_
    refine gg_60_9 hx hb hown E hM hk_60 kw_1251 dX8_peek_12 ?_
    refine lv_aload_n hx hb dX8_peek_15 rfl (lv_at hl 0 rfl) ?_
    refine gg_60_12 hx hb hown E hM hk_60 kw_1254 dX8_peek_16 ?_
    obtain ⟨c2, h⟩ := gchk_e h
    refine g_bald hx hb E hM hk_68 dd_68 c2 dX8_peek_19 ?_
    refine lv_sipush (v := (255 : Int32)) hx hb dX8_peek_20 (by decide) ?_
    refine lv_iand hx hb dX8_peek_23 ?_
    refine lv_goto (tgt := 28) hx hb dX8_peek_24 (by decide) ?_
    obtain rfl := Option.some.inj h
    exact g_iret hx hb hr hlocks hM hS dX8_peek_28
def b_X8_advance_0  (μ : gM) : Option ((gM) ⊕ (gM)) :=
  Option.bind (f_X8_peek  μ) (fun q1 => if (q1 = (32 : Int32)) then some (.inl (si μ 60 12 ((gi μ 60 12) + (1 : Int32)))) else Option.bind (f_X8_peek  μ) (fun q3 => if (q3 = (10 : Int32)) then some (.inl (si μ 60 12 ((gi μ 60 12) + (1 : Int32)))) else some (.inr μ)))
set_option maxHeartbeats 4000000 in
set_option maxRecDepth 100000 in
theorem wb_X8_advance_0 {p : Program} {l : Launch} {e : Env} {s : State} {m : MethodId} {args : Array Value} {below : List Frame} {meth : Method} {c : Code} {D : va_G} {cy : Nat → ClassId} {ad : Nat → Nat} {base : Nat}  {μ : gM} {o : (gM) ⊕ (gM)} {RES : gM} (h : b_X8_advance_0  μ = some o) (F : gF p s m meth c cX8_advance RX8 2 none) (E : gEnv l D cy ad base s) (kc : ∀ (t : gM) {H : Heap} {locs : List Loc} {ls : Array Slot}, o = .inl t → gW gFull D cy ad base t H → va_S (gA base) s.heap H locs → lv_has ls 2 [(0, .ref (ad 60))] → W p l e ({ frames := 1, cells := 0, slots := 0, locals := 22 } : Room) s m args below meth c H locs 0 0 (MQ below (gQ none gFull D cy ad base RES) args s 0 0 (gA base)) (F0 m 0 ls [])) (kx : ∀ (t : gM) {H : Heap} {locs : List Loc} {ls : Array Slot}, o = .inr t → gW gFull D cy ad base t H → va_S (gA base) s.heap H locs → lv_has ls 2 [(0, .ref (ad 60))] → W p l e ({ frames := 1, cells := 0, slots := 0, locals := 22 } : Room) s m args below meth c H locs 0 0 (MQ below (gQ none gFull D cy ad base RES) args s 0 0 (gA base)) (F0 m 31 ls []))  {H : Heap} {locs : List Loc} {ls : Array Slot} (hM : gW gFull D cy ad base μ H) (hS : va_S (gA base) s.heap H locs) (hl : lv_has ls 2 [(0, .ref (ad 60))]) : W p l e ({ frames := 1, cells := 0, slots := 0, locals := 22 } : Room) s m args below meth c H locs 0 0 (MQ below (gQ none gFull D cy ad base RES) args s 0 0 (gA base)) (F0 m 0 ls []) := by
  obtain ⟨hx, hb, hml, hown, hlocks, hr⟩ := id F
  unfold b_X8_advance_0 at h
  refine lv_aload_n hx hb dX8_advance_0 rfl (lv_at hl 0 rfl) ?_
  obtain ⟨q1, hq1, h⟩ := gbind_e h
  refine g_callV (As := []) (rest := []) hx hb (hml.trans hl.1.symm) hown E hM hS hy_X8_peek kw_1386 (c_X8_peek hq1) hk_60 dd_60 rfl rfl rfl (Nat.le_of_ble_eq_true rfl) ⟨Nat.le_of_ble_eq_true rfl, Nat.le_of_ble_eq_true rfl⟩ ⟨Nat.le_of_ble_eq_true rfl, Nat.le_of_ble_eq_true rfl⟩ dX8_advance_1 (fun H locs hM hS => ?_)
  refine lv_bipush (v := (32 : Int32)) hx hb dX8_advance_4 (by decide) ?_
  refine lv_icmp_eq (tgt := 18) hx hb dX8_advance_6 (by decide) (fun c2 => ?_) (fun c2 => ?_)
  · replace h := gif_t c2 h
    refine lv_aload_n hx hb dX8_advance_18 rfl (lv_at hl 0 rfl) ?_
    refine lv_dup hx hb dX8_advance_19 rfl ?_
    refine gg_60_12 hx hb hown E hM hk_60 kw_1254 dX8_advance_20 ?_
    refine lv_iconst (v := (1 : Int32)) hx hb dX8_advance_23 (by decide) ?_
    refine lv_iadd hx hb dX8_advance_24 ?_
    refine gp_60_12 hx hb hown E hM hS hk_60 kw_1254 dX8_advance_25 (fun H locs hM hS => ?_)
    refine lv_goto (tgt := 0) hx hb dX8_advance_28 (by decide) ?_
    exact kc _ (Option.some.inj h).symm hM hS hl
  · replace h := gif_f c2 h
    refine lv_aload_n hx hb dX8_advance_9 rfl (lv_at hl 0 rfl) ?_
    obtain ⟨q3, hq3, h⟩ := gbind_e h
    refine g_callV (As := []) (rest := []) hx hb (hml.trans hl.1.symm) hown E hM hS hy_X8_peek kw_1386 (c_X8_peek hq3) hk_60 dd_60 rfl rfl rfl (Nat.le_of_ble_eq_true rfl) ⟨Nat.le_of_ble_eq_true rfl, Nat.le_of_ble_eq_true rfl⟩ ⟨Nat.le_of_ble_eq_true rfl, Nat.le_of_ble_eq_true rfl⟩ dX8_advance_10 (fun H locs hM hS => ?_)
    refine lv_bipush (v := (10 : Int32)) hx hb dX8_advance_13 (by decide) ?_
    refine lv_icmp_ne (tgt := 31) hx hb dX8_advance_15 (by decide) (fun c4 => ?_) (fun c4 => ?_)
    · replace h := gif_f c4 h
      exact kx _ (Option.some.inj h).symm hM hS hl
    · replace h := gif_t c4 h
      refine lv_aload_n hx hb dX8_advance_18 rfl (lv_at hl 0 rfl) ?_
      refine lv_dup hx hb dX8_advance_19 rfl ?_
      refine gg_60_12 hx hb hown E hM hk_60 kw_1254 dX8_advance_20 ?_
      refine lv_iconst (v := (1 : Int32)) hx hb dX8_advance_23 (by decide) ?_
      refine lv_iadd hx hb dX8_advance_24 ?_
      refine gp_60_12 hx hb hown E hM hS hk_60 kw_1254 dX8_advance_25 (fun H locs hM hS => ?_)
      refine lv_goto (tgt := 0) hx hb dX8_advance_28 (by decide) ?_
      exact kc _ (Option.some.inj h).symm hM hS hl
set_option maxHeartbeats 4000000 in
theorem wl_X8_advance_0 {p : Program} {l : Launch} {e : Env} {s : State} {m : MethodId} {args : Array Value} {below : List Frame} {meth : Method} {c : Code} {D : va_G} {cy : Nat → ClassId} {ad : Nat → Nat} {base : Nat}  {r : gM} {RES : gM} (F : gF p s m meth c cX8_advance RX8 2 none) (E : gEnv l D cy ad base s) (kx : ∀ (t : gM) {H : Heap} {locs : List Loc} {ls : Array Slot}, r = t → gW gFull D cy ad base t H → va_S (gA base) s.heap H locs → lv_has ls 2 [(0, .ref (ad 60))] → W p l e ({ frames := 1, cells := 0, slots := 0, locals := 22 } : Room) s m args below meth c H locs 0 0 (MQ below (gQ none gFull D cy ad base RES) args s 0 0 (gA base)) (F0 m 31 ls []))  : ∀ (n : Nat)  (μ : gM), gloop (fun t => b_X8_advance_0   t) n μ = some r → ∀ {H : Heap} {locs : List Loc} {ls : Array Slot}, gW gFull D cy ad base μ H → va_S (gA base) s.heap H locs → lv_has ls 2 [(0, .ref (ad 60))] → W p l e ({ frames := 1, cells := 0, slots := 0, locals := 22 } : Room) s m args below meth c H locs 0 0 (MQ below (gQ none gFull D cy ad base RES) args s 0 0 (gA base)) (F0 m 0 ls []) := by
  intro n
  induction n with
  | zero =>
    intro μ h
    exact (gloop_0 h).elim
  | succ n ih =>
    intro μ h H locs ls hM hS hl
    obtain ⟨o, h0, hc, hq⟩ := gloop_s h
    have h1 : b_X8_advance_0  μ = some o := h0
    exact wb_X8_advance_0 h1 F E (fun t H locs ls ho hM hS hl => ih t (hc t ho) hM hS hl) (fun t H locs ls ho hM hS hl => kx t (hq _ ho).symm hM hS hl) hM hS hl
def j_X8_advance_256 (y1 : Int32) (μ : gM) : Option (gM) :=
  some (si (si μ 60 14 y1) 60 12 ((gi (si μ 60 14 y1) 60 12) + (1 : Int32)))
set_option maxHeartbeats 4000000 in
set_option maxRecDepth 100000 in
theorem wj_X8_advance_256 {p : Program} {l : Launch} {e : Env} {s : State} {m : MethodId} {args : Array Value} {below : List Frame} {meth : Method} {c : Code} {D : va_G} {cy : Nat → ClassId} {ad : Nat → Nat} {base : Nat} {y1 : Int32} {μ : gM} {o : gM} (h : j_X8_advance_256 y1 μ = some o) (F : gF p s m meth c cX8_advance RX8 2 none) (E : gEnv l D cy ad base s)  {H : Heap} {locs : List Loc} {ls : Array Slot} (hM : gW gFull D cy ad base μ H) (hS : va_S (gA base) s.heap H locs) (hl : lv_has ls 2 [(0, .ref (ad 60))]) : W p l e ({ frames := 1, cells := 0, slots := 0, locals := 22 } : Room) s m args below meth c H locs 0 0 (MQ below (gQ none gFull D cy ad base o) args s 0 0 (gA base)) (F0 m 256 ls [.int y1, .ref (ad 60)]) := by
  obtain ⟨hx, hb, hml, hown, hlocks, hr⟩ := id F
  unfold j_X8_advance_256 at h
  refine gp_60_14 hx hb hown E hM hS hk_60 kw_1256 dX8_advance_256 (fun H locs hM hS => ?_)
  refine lv_aload_n hx hb dX8_advance_259 rfl (lv_at hl 0 rfl) ?_
  refine lv_dup hx hb dX8_advance_260 rfl ?_
  refine gg_60_12 hx hb hown E hM hk_60 kw_1254 dX8_advance_261 ?_
  refine lv_iconst (v := (1 : Int32)) hx hb dX8_advance_264 (by decide) ?_
  refine lv_iadd hx hb dX8_advance_265 ?_
  refine gp_60_12 hx hb hown E hM hS hk_60 kw_1254 dX8_advance_266 (fun H locs hM hS => ?_)
  obtain rfl := Option.some.inj h
  exact g_vret hx hb hr hlocks hM hS dX8_advance_269
def j_X8_advance_228 (y1 : Int32) (μ : gM) : Option ((gM) ⊕ (gM)) :=
  some (.inl (si (si μ 60 16 y1) 60 12 ((gi (si μ 60 16 y1) 60 12) + (1 : Int32))))
set_option maxHeartbeats 4000000 in
set_option maxRecDepth 100000 in
theorem wj_X8_advance_228 {p : Program} {l : Launch} {e : Env} {s : State} {m : MethodId} {args : Array Value} {below : List Frame} {meth : Method} {c : Code} {D : va_G} {cy : Nat → ClassId} {ad : Nat → Nat} {base : Nat} {y1 : Int32} {μ : gM} {o : (gM) ⊕ (gM)} {RES : gM} (h : j_X8_advance_228 y1 μ = some o) (F : gF p s m meth c cX8_advance RX8 2 none) (E : gEnv l D cy ad base s) (kc : ∀ (t : gM) {H : Heap} {locs : List Loc} {ls : Array Slot}, o = .inl t → gW gFull D cy ad base t H → va_S (gA base) s.heap H locs → lv_has ls 2 [(0, .ref (ad 60))] → W p l e ({ frames := 1, cells := 0, slots := 0, locals := 22 } : Room) s m args below meth c H locs 0 0 (MQ below (gQ none gFull D cy ad base RES) args s 0 0 (gA base)) (F0 m 184 ls [])) (kx : ∀ (t : gM) {H : Heap} {locs : List Loc} {ls : Array Slot}, o = .inr t → gW gFull D cy ad base t H → va_S (gA base) s.heap H locs → lv_has ls 2 [] → W p l e ({ frames := 1, cells := 0, slots := 0, locals := 22 } : Room) s m args below meth c H locs 0 0 (MQ below (gQ none gFull D cy ad base RES) args s 0 0 (gA base)) (F0 m 269 ls []))  {H : Heap} {locs : List Loc} {ls : Array Slot} (hM : gW gFull D cy ad base μ H) (hS : va_S (gA base) s.heap H locs) (hl : lv_has ls 2 [(0, .ref (ad 60))]) : W p l e ({ frames := 1, cells := 0, slots := 0, locals := 22 } : Room) s m args below meth c H locs 0 0 (MQ below (gQ none gFull D cy ad base RES) args s 0 0 (gA base)) (F0 m 228 ls [.int y1, .ref (ad 60)]) := by
  obtain ⟨hx, hb, hml, hown, hlocks, hr⟩ := id F
  unfold j_X8_advance_228 at h
  refine gp_60_16 hx hb hown E hM hS hk_60 kw_1258 dX8_advance_228 (fun H locs hM hS => ?_)
  refine lv_aload_n hx hb dX8_advance_231 rfl (lv_at hl 0 rfl) ?_
  refine lv_dup hx hb dX8_advance_232 rfl ?_
  refine gg_60_12 hx hb hown E hM hk_60 kw_1254 dX8_advance_233 ?_
  refine lv_iconst (v := (1 : Int32)) hx hb dX8_advance_236 (by decide) ?_
  refine lv_iadd hx hb dX8_advance_237 ?_
  refine gp_60_12 hx hb hown E hM hS hk_60 kw_1254 dX8_advance_238 (fun H locs hM hS => ?_)
  refine lv_goto (tgt := 184) hx hb dX8_advance_241 (by decide) ?_
  exact kc _ (Option.some.inj h).symm hM hS hl
def b_X8_advance_184  (μ : gM) : Option ((gM) ⊕ (gM)) :=
  Option.bind (f_X8_peek  μ) (fun q13 => Option.bind (f_X8_inRange q13 (48 : Int32) (57 : Int32) μ) (fun q14 => if ((b2i q14) = 0) then some (.inr μ) else if ((gi μ 60 16) ≤ (100000000 : Int32)) then Option.bind (f_X8_peek  μ) (fun q17 => j_X8_advance_228 ((((10 : Int32) * (gi μ 60 16)) + q17) - (48 : Int32)) μ) else j_X8_advance_228 (1000000000 : Int32) μ))
set_option maxHeartbeats 4000000 in
set_option maxRecDepth 100000 in
theorem wb_X8_advance_184 {p : Program} {l : Launch} {e : Env} {s : State} {m : MethodId} {args : Array Value} {below : List Frame} {meth : Method} {c : Code} {D : va_G} {cy : Nat → ClassId} {ad : Nat → Nat} {base : Nat}  {μ : gM} {o : (gM) ⊕ (gM)} {RES : gM} (h : b_X8_advance_184  μ = some o) (F : gF p s m meth c cX8_advance RX8 2 none) (E : gEnv l D cy ad base s) (kc : ∀ (t : gM) {H : Heap} {locs : List Loc} {ls : Array Slot}, o = .inl t → gW gFull D cy ad base t H → va_S (gA base) s.heap H locs → lv_has ls 2 [(0, .ref (ad 60))] → W p l e ({ frames := 1, cells := 0, slots := 0, locals := 22 } : Room) s m args below meth c H locs 0 0 (MQ below (gQ none gFull D cy ad base RES) args s 0 0 (gA base)) (F0 m 184 ls [])) (kx : ∀ (t : gM) {H : Heap} {locs : List Loc} {ls : Array Slot}, o = .inr t → gW gFull D cy ad base t H → va_S (gA base) s.heap H locs → lv_has ls 2 [] → W p l e ({ frames := 1, cells := 0, slots := 0, locals := 22 } : Room) s m args below meth c H locs 0 0 (MQ below (gQ none gFull D cy ad base RES) args s 0 0 (gA base)) (F0 m 269 ls []))  {H : Heap} {locs : List Loc} {ls : Array Slot} (hM : gW gFull D cy ad base μ H) (hS : va_S (gA base) s.heap H locs) (hl : lv_has ls 2 [(0, .ref (ad 60))]) : W p l e ({ frames := 1, cells := 0, slots := 0, locals := 22 } : Room) s m args below meth c H locs 0 0 (MQ below (gQ none gFull D cy ad base RES) args s 0 0 (gA base)) (F0 m 184 ls []) := by
  obtain ⟨hx, hb, hml, hown, hlocks, hr⟩ := id F
  unfold b_X8_advance_184 at h
  refine lv_aload_n hx hb dX8_advance_184 rfl (lv_at hl 0 rfl) ?_
  obtain ⟨q13, hq13, h⟩ := gbind_e h
  refine g_callV (As := []) (rest := []) hx hb (hml.trans hl.1.symm) hown E hM hS hy_X8_peek kw_1386 (c_X8_peek hq13) hk_60 dd_60 rfl rfl rfl (Nat.le_of_ble_eq_true rfl) ⟨Nat.le_of_ble_eq_true rfl, Nat.le_of_ble_eq_true rfl⟩ ⟨Nat.le_of_ble_eq_true rfl, Nat.le_of_ble_eq_true rfl⟩ dX8_advance_185 (fun H locs hM hS => ?_)
  refine lv_bipush (v := (48 : Int32)) hx hb dX8_advance_188 (by decide) ?_
  refine lv_bipush (v := (57 : Int32)) hx hb dX8_advance_190 (by decide) ?_
  obtain ⟨q14, hq14, h⟩ := gbind_e h
  refine g_callS (As := [.int q13, .int (48 : Int32), .int (57 : Int32)]) (rest := []) hx hb (hml.trans hl.1.symm) hown E hM hS hy_X8_inRange kw_1379 (c_X8_inRange hq14) rfl rfl (Nat.le_of_ble_eq_true rfl) ⟨Nat.le_of_ble_eq_true rfl, Nat.le_of_ble_eq_true rfl⟩ ⟨Nat.le_of_ble_eq_true rfl, Nat.le_of_ble_eq_true rfl⟩ dX8_advance_192 (fun H locs hM hS => ?_)
  refine lv_if_eq (tgt := 269) hx hb dX8_advance_195 (by decide) (fun c15 => ?_) (fun c15 => ?_)
  · replace h := gif_t c15 h
    exact kx _ (Option.some.inj h).symm hM hS (lv_sub hl [] rfl)
  · replace h := gif_f c15 h
    refine lv_aload_n hx hb dX8_advance_198 rfl (lv_at hl 0 rfl) ?_
    refine lv_aload_n hx hb dX8_advance_199 rfl (lv_at hl 0 rfl) ?_
    refine gg_60_16 hx hb hown E hM hk_60 kw_1258 dX8_advance_200 ?_
    refine lv_ldc hx hb hown (v := (100000000 : Int32)) (E.kw kw_1390) dX8_advance_203 ?_
    refine lv_icmp_le (tgt := 213) hx hb dX8_advance_205 (by decide) (fun c16 => ?_) (fun c16 => ?_)
    · replace h := gif_t c16 h
      refine lv_bipush (v := (10 : Int32)) hx hb dX8_advance_213 (by decide) ?_
      refine lv_aload_n hx hb dX8_advance_215 rfl (lv_at hl 0 rfl) ?_
      refine gg_60_16 hx hb hown E hM hk_60 kw_1258 dX8_advance_216 ?_
      refine lv_imul hx hb dX8_advance_219 ?_
      refine lv_aload_n hx hb dX8_advance_220 rfl (lv_at hl 0 rfl) ?_
      obtain ⟨q17, hq17, h⟩ := gbind_e h
      refine g_callV (As := []) (rest := [.int ((10 : Int32) * (gi μ 60 16)), .ref (ad 60)]) hx hb (hml.trans hl.1.symm) hown E hM hS hy_X8_peek kw_1386 (c_X8_peek hq17) hk_60 dd_60 rfl rfl rfl (Nat.le_of_ble_eq_true rfl) ⟨Nat.le_of_ble_eq_true rfl, Nat.le_of_ble_eq_true rfl⟩ ⟨Nat.le_of_ble_eq_true rfl, Nat.le_of_ble_eq_true rfl⟩ dX8_advance_221 (fun H locs hM hS => ?_)
      refine lv_iadd hx hb dX8_advance_224 ?_
      refine lv_bipush (v := (48 : Int32)) hx hb dX8_advance_225 (by decide) ?_
      refine lv_isub hx hb dX8_advance_227 ?_
      exact wj_X8_advance_228 h F E kc kx hM hS hl
    · replace h := gif_f c16 h
      refine lv_ldc hx hb hown (v := (1000000000 : Int32)) (E.kw kw_1391) dX8_advance_208 ?_
      refine lv_goto (tgt := 228) hx hb dX8_advance_210 (by decide) ?_
      exact wj_X8_advance_228 h F E kc kx hM hS hl
set_option maxHeartbeats 4000000 in
theorem wl_X8_advance_184 {p : Program} {l : Launch} {e : Env} {s : State} {m : MethodId} {args : Array Value} {below : List Frame} {meth : Method} {c : Code} {D : va_G} {cy : Nat → ClassId} {ad : Nat → Nat} {base : Nat}  {r : gM} {RES : gM} (F : gF p s m meth c cX8_advance RX8 2 none) (E : gEnv l D cy ad base s) (kx : ∀ (t : gM) {H : Heap} {locs : List Loc} {ls : Array Slot}, r = t → gW gFull D cy ad base t H → va_S (gA base) s.heap H locs → lv_has ls 2 [] → W p l e ({ frames := 1, cells := 0, slots := 0, locals := 22 } : Room) s m args below meth c H locs 0 0 (MQ below (gQ none gFull D cy ad base RES) args s 0 0 (gA base)) (F0 m 269 ls []))  : ∀ (n : Nat)  (μ : gM), gloop (fun t => b_X8_advance_184   t) n μ = some r → ∀ {H : Heap} {locs : List Loc} {ls : Array Slot}, gW gFull D cy ad base μ H → va_S (gA base) s.heap H locs → lv_has ls 2 [(0, .ref (ad 60))] → W p l e ({ frames := 1, cells := 0, slots := 0, locals := 22 } : Room) s m args below meth c H locs 0 0 (MQ below (gQ none gFull D cy ad base RES) args s 0 0 (gA base)) (F0 m 184 ls []) := by
  intro n
  induction n with
  | zero =>
    intro μ h
    exact (gloop_0 h).elim
  | succ n ih =>
    intro μ h H locs ls hM hS hl
    obtain ⟨o, h0, hc, hq⟩ := gloop_s h
    have h1 : b_X8_advance_184  μ = some o := h0
    exact wb_X8_advance_184 h1 F E (fun t H locs ls ho hM hS hl => ih t (hc t ho) hM hS hl) (fun t H locs ls ho hM hS hl => kx t (hq _ ho).symm hM hS hl) hM hS hl
def j_X8_advance_130 (y1 : Int64) (μ : gM) : Option ((gM) ⊕ (gM)) :=
  some (.inl (si (sl μ 60 15 y1) 60 12 ((gi (sl μ 60 15 y1) 60 12) + (1 : Int32))))
set_option maxHeartbeats 4000000 in
set_option maxRecDepth 100000 in
theorem wj_X8_advance_130 {p : Program} {l : Launch} {e : Env} {s : State} {m : MethodId} {args : Array Value} {below : List Frame} {meth : Method} {c : Code} {D : va_G} {cy : Nat → ClassId} {ad : Nat → Nat} {base : Nat} {y1 : Int64} {μ : gM} {o : (gM) ⊕ (gM)} {RES : gM} (h : j_X8_advance_130 y1 μ = some o) (F : gF p s m meth c cX8_advance RX8 2 none) (E : gEnv l D cy ad base s) (kc : ∀ (t : gM) {H : Heap} {locs : List Loc} {ls : Array Slot}, o = .inl t → gW gFull D cy ad base t H → va_S (gA base) s.heap H locs → lv_has ls 2 [(0, .ref (ad 60))] → W p l e ({ frames := 1, cells := 0, slots := 0, locals := 22 } : Room) s m args below meth c H locs 0 0 (MQ below (gQ none gFull D cy ad base RES) args s 0 0 (gA base)) (F0 m 82 ls [])) (kx : ∀ (t : gM) {H : Heap} {locs : List Loc} {ls : Array Slot}, o = .inr t → gW gFull D cy ad base t H → va_S (gA base) s.heap H locs → lv_has ls 2 [(0, .ref (ad 60))] → W p l e ({ frames := 1, cells := 0, slots := 0, locals := 22 } : Room) s m args below meth c H locs 0 0 (MQ below (gQ none gFull D cy ad base RES) args s 0 0 (gA base)) (F0 m 146 ls []))  {H : Heap} {locs : List Loc} {ls : Array Slot} (hM : gW gFull D cy ad base μ H) (hS : va_S (gA base) s.heap H locs) (hl : lv_has ls 2 [(0, .ref (ad 60))]) : W p l e ({ frames := 1, cells := 0, slots := 0, locals := 22 } : Room) s m args below meth c H locs 0 0 (MQ below (gQ none gFull D cy ad base RES) args s 0 0 (gA base)) (F0 m 130 ls [.long y1, .ref (ad 60)]) := by
  obtain ⟨hx, hb, hml, hown, hlocks, hr⟩ := id F
  unfold j_X8_advance_130 at h
  refine gp_60_15 hx hb hown E hM hS hk_60 kw_1257 dX8_advance_130 (fun H locs hM hS => ?_)
  refine lv_aload_n hx hb dX8_advance_133 rfl (lv_at hl 0 rfl) ?_
  refine lv_dup hx hb dX8_advance_134 rfl ?_
  refine gg_60_12 hx hb hown E hM hk_60 kw_1254 dX8_advance_135 ?_
  refine lv_iconst (v := (1 : Int32)) hx hb dX8_advance_138 (by decide) ?_
  refine lv_iadd hx hb dX8_advance_139 ?_
  refine gp_60_12 hx hb hown E hM hS hk_60 kw_1254 dX8_advance_140 (fun H locs hM hS => ?_)
  refine lv_goto (tgt := 82) hx hb dX8_advance_143 (by decide) ?_
  exact kc _ (Option.some.inj h).symm hM hS hl
def b_X8_advance_82  (μ : gM) : Option ((gM) ⊕ (gM)) :=
  Option.bind (f_X8_peek  μ) (fun q20 => Option.bind (f_X8_inRange q20 (97 : Int32) (122 : Int32) μ) (fun q21 => if ((b2i q21) = 0) then some (.inr μ) else if ((12 : Int32) ≤ ((gi μ 60 12) - (gi μ 60 13))) then j_X8_advance_130 (0 : Int64) μ else Option.bind (f_X8_peek  μ) (fun q24 => j_X8_advance_130 (((gl μ 60 15) <<< ((5 : Int32).toInt64 &&& 63)) ||| (q24 - (96 : Int32)).toInt64) μ)))
set_option maxHeartbeats 4000000 in
set_option maxRecDepth 100000 in
theorem wb_X8_advance_82 {p : Program} {l : Launch} {e : Env} {s : State} {m : MethodId} {args : Array Value} {below : List Frame} {meth : Method} {c : Code} {D : va_G} {cy : Nat → ClassId} {ad : Nat → Nat} {base : Nat}  {μ : gM} {o : (gM) ⊕ (gM)} {RES : gM} (h : b_X8_advance_82  μ = some o) (F : gF p s m meth c cX8_advance RX8 2 none) (E : gEnv l D cy ad base s) (kc : ∀ (t : gM) {H : Heap} {locs : List Loc} {ls : Array Slot}, o = .inl t → gW gFull D cy ad base t H → va_S (gA base) s.heap H locs → lv_has ls 2 [(0, .ref (ad 60))] → W p l e ({ frames := 1, cells := 0, slots := 0, locals := 22 } : Room) s m args below meth c H locs 0 0 (MQ below (gQ none gFull D cy ad base RES) args s 0 0 (gA base)) (F0 m 82 ls [])) (kx : ∀ (t : gM) {H : Heap} {locs : List Loc} {ls : Array Slot}, o = .inr t → gW gFull D cy ad base t H → va_S (gA base) s.heap H locs → lv_has ls 2 [(0, .ref (ad 60))] → W p l e ({ frames := 1, cells := 0, slots := 0, locals := 22 } : Room) s m args below meth c H locs 0 0 (MQ below (gQ none gFull D cy ad base RES) args s 0 0 (gA base)) (F0 m 146 ls []))  {H : Heap} {locs : List Loc} {ls : Array Slot} (hM : gW gFull D cy ad base μ H) (hS : va_S (gA base) s.heap H locs) (hl : lv_has ls 2 [(0, .ref (ad 60))]) : W p l e ({ frames := 1, cells := 0, slots := 0, locals := 22 } : Room) s m args below meth c H locs 0 0 (MQ below (gQ none gFull D cy ad base RES) args s 0 0 (gA base)) (F0 m 82 ls []) := by
  obtain ⟨hx, hb, hml, hown, hlocks, hr⟩ := id F
  unfold b_X8_advance_82 at h
  refine lv_aload_n hx hb dX8_advance_82 rfl (lv_at hl 0 rfl) ?_
  obtain ⟨q20, hq20, h⟩ := gbind_e h
  refine g_callV (As := []) (rest := []) hx hb (hml.trans hl.1.symm) hown E hM hS hy_X8_peek kw_1386 (c_X8_peek hq20) hk_60 dd_60 rfl rfl rfl (Nat.le_of_ble_eq_true rfl) ⟨Nat.le_of_ble_eq_true rfl, Nat.le_of_ble_eq_true rfl⟩ ⟨Nat.le_of_ble_eq_true rfl, Nat.le_of_ble_eq_true rfl⟩ dX8_advance_83 (fun H locs hM hS => ?_)
  refine lv_bipush (v := (97 : Int32)) hx hb dX8_advance_86 (by decide) ?_
  refine lv_bipush (v := (122 : Int32)) hx hb dX8_advance_88 (by decide) ?_
  obtain ⟨q21, hq21, h⟩ := gbind_e h
  refine g_callS (As := [.int q20, .int (97 : Int32), .int (122 : Int32)]) (rest := []) hx hb (hml.trans hl.1.symm) hown E hM hS hy_X8_inRange kw_1379 (c_X8_inRange hq21) rfl rfl (Nat.le_of_ble_eq_true rfl) ⟨Nat.le_of_ble_eq_true rfl, Nat.le_of_ble_eq_true rfl⟩ ⟨Nat.le_of_ble_eq_true rfl, Nat.le_of_ble_eq_true rfl⟩ dX8_advance_90 (fun H locs hM hS => ?_)
  refine lv_if_eq (tgt := 146) hx hb dX8_advance_93 (by decide) (fun c22 => ?_) (fun c22 => ?_)
  · replace h := gif_t c22 h
    exact kx _ (Option.some.inj h).symm hM hS hl
  · replace h := gif_f c22 h
    refine lv_aload_n hx hb dX8_advance_96 rfl (lv_at hl 0 rfl) ?_
    refine lv_aload_n hx hb dX8_advance_97 rfl (lv_at hl 0 rfl) ?_
    refine gg_60_12 hx hb hown E hM hk_60 kw_1254 dX8_advance_98 ?_
    refine lv_aload_n hx hb dX8_advance_101 rfl (lv_at hl 0 rfl) ?_
    refine gg_60_13 hx hb hown E hM hk_60 kw_1255 dX8_advance_102 ?_
    refine lv_isub hx hb dX8_advance_105 ?_
    refine lv_bipush (v := (12 : Int32)) hx hb dX8_advance_106 (by decide) ?_
    refine lv_icmp_ge (tgt := 129) hx hb dX8_advance_108 (by decide) (fun c23 => ?_) (fun c23 => ?_)
    · replace h := gif_t c23 h
      refine lv_lconst (v := (0 : Int64)) hx hb dX8_advance_129 (by decide) ?_
      exact wj_X8_advance_130 h F E kc kx hM hS hl
    · replace h := gif_f c23 h
      refine lv_aload_n hx hb dX8_advance_111 rfl (lv_at hl 0 rfl) ?_
      refine gg_60_15 hx hb hown E hM hk_60 kw_1257 dX8_advance_112 ?_
      refine lv_iconst (v := (5 : Int32)) hx hb dX8_advance_115 (by decide) ?_
      refine lv_lshl (v := ((gl μ 60 15) <<< ((5 : Int32).toInt64 &&& 63))) hx hb dX8_advance_116 rfl ?_
      refine lv_aload_n hx hb dX8_advance_117 rfl (lv_at hl 0 rfl) ?_
      obtain ⟨q24, hq24, h⟩ := gbind_e h
      refine g_callV (As := []) (rest := [.long ((gl μ 60 15) <<< ((5 : Int32).toInt64 &&& 63)), .ref (ad 60)]) hx hb (hml.trans hl.1.symm) hown E hM hS hy_X8_peek kw_1386 (c_X8_peek hq24) hk_60 dd_60 rfl rfl rfl (Nat.le_of_ble_eq_true rfl) ⟨Nat.le_of_ble_eq_true rfl, Nat.le_of_ble_eq_true rfl⟩ ⟨Nat.le_of_ble_eq_true rfl, Nat.le_of_ble_eq_true rfl⟩ dX8_advance_118 (fun H locs hM hS => ?_)
      refine lv_bipush (v := (96 : Int32)) hx hb dX8_advance_121 (by decide) ?_
      refine lv_isub hx hb dX8_advance_123 ?_
      refine lv_i2l (v := (q24 - (96 : Int32)).toInt64) hx hb dX8_advance_124 rfl ?_
      refine lv_lor hx hb dX8_advance_125 ?_
      refine lv_goto (tgt := 130) hx hb dX8_advance_126 (by decide) ?_
      exact wj_X8_advance_130 h F E kc kx hM hS hl
set_option maxHeartbeats 4000000 in
theorem wl_X8_advance_82 {p : Program} {l : Launch} {e : Env} {s : State} {m : MethodId} {args : Array Value} {below : List Frame} {meth : Method} {c : Code} {D : va_G} {cy : Nat → ClassId} {ad : Nat → Nat} {base : Nat}  {r : gM} {RES : gM} (F : gF p s m meth c cX8_advance RX8 2 none) (E : gEnv l D cy ad base s) (kx : ∀ (t : gM) {H : Heap} {locs : List Loc} {ls : Array Slot}, r = t → gW gFull D cy ad base t H → va_S (gA base) s.heap H locs → lv_has ls 2 [(0, .ref (ad 60))] → W p l e ({ frames := 1, cells := 0, slots := 0, locals := 22 } : Room) s m args below meth c H locs 0 0 (MQ below (gQ none gFull D cy ad base RES) args s 0 0 (gA base)) (F0 m 146 ls []))  : ∀ (n : Nat)  (μ : gM), gloop (fun t => b_X8_advance_82   t) n μ = some r → ∀ {H : Heap} {locs : List Loc} {ls : Array Slot}, gW gFull D cy ad base μ H → va_S (gA base) s.heap H locs → lv_has ls 2 [(0, .ref (ad 60))] → W p l e ({ frames := 1, cells := 0, slots := 0, locals := 22 } : Room) s m args below meth c H locs 0 0 (MQ below (gQ none gFull D cy ad base RES) args s 0 0 (gA base)) (F0 m 82 ls []) := by
  intro n
  induction n with
  | zero =>
    intro μ h
    exact (gloop_0 h).elim
  | succ n ih =>
    intro μ h H locs ls hM hS hl
    obtain ⟨o, h0, hc, hq⟩ := gloop_s h
    have h1 : b_X8_advance_82  μ = some o := h0
    exact wb_X8_advance_82 h1 F E (fun t H locs ls ho hM hS hl => ih t (hc t ho) hM hS hl) (fun t H locs ls ho hM hS hl => kx t (hq _ ho).symm hM hS hl) hM hS hl
def f_X8_advance (μ : gM) : Option (gM) :=
  Option.bind (gloop (fun t => b_X8_advance_0   t) gFuel μ) (fun q5 => Option.bind (f_X8_peek  (si (sl (si q5 60 13 (gi q5 60 12)) 60 15 (0 : Int64)) 60 16 (0 : Int32))) (fun q6 => if (0 ≤ q6) then Option.bind (f_X8_inRange q6 (97 : Int32) (122 : Int32) (si (sl (si q5 60 13 (gi q5 60 12)) 60 15 (0 : Int64)) 60 16 (0 : Int32))) (fun q8 => if ((b2i q8) = 0) then Option.bind (f_X8_inRange q6 (48 : Int32) (57 : Int32) (si (sl (si q5 60 13 (gi q5 60 12)) 60 15 (0 : Int64)) 60 16 (0 : Int32))) (fun q10 => if ((b2i q10) = 0) then if (q6 = (59 : Int32)) then j_X8_advance_256 (3 : Int32) (si (sl (si q5 60 13 (gi q5 60 12)) 60 15 (0 : Int64)) 60 16 (0 : Int32)) else j_X8_advance_256 (4 : Int32) (si (sl (si q5 60 13 (gi q5 60 12)) 60 15 (0 : Int64)) 60 16 (0 : Int32)) else Option.bind (gloop (fun t => b_X8_advance_184   t) gFuel (si (si (sl (si q5 60 13 (gi q5 60 12)) 60 15 (0 : Int64)) 60 16 (0 : Int32)) 60 14 (2 : Int32))) (fun q18 => some q18)) else Option.bind (gloop (fun t => b_X8_advance_82   t) gFuel (si (si (sl (si q5 60 13 (gi q5 60 12)) 60 15 (0 : Int64)) 60 16 (0 : Int32)) 60 14 (1 : Int32))) (fun q25 => if (((gi q25 60 12) - (gi q25 60 13)) ≤ (12 : Int32)) then some q25 else some (sl q25 60 15 (0 : Int64)))) else some (si (si (sl (si q5 60 13 (gi q5 60 12)) 60 15 (0 : Int64)) 60 16 (0 : Int32)) 60 14 (0 : Int32))))
set_option maxHeartbeats 4000000 in
set_option maxRecDepth 100000 in
theorem c_X8_advance {l : Launch} {D : va_G} {cy : Nat → ClassId} {ad : Nat → Nat} {base : Nat}  {μ : gM} {RES : gM} (h : f_X8_advance  μ = some RES) : Met l yX8_advance [.code yX8_advance cX8_advance 2 none] ({ frames := 1, cells := 0, slots := 0, locals := 22 } : Room) (va_Pc [.ref (ad 60)] (gB l gFull D cy ad base μ)) (gQ none gFull D cy ad base RES) 0 0 (gA base) := by
  refine Met.ofW (cc := cX8_advance) (maxL := 2) (ret := none) (by decide) rfl ?_
  intro p e s m args below meth c s₁ B hml0 hv
  obtain ⟨rfl, E, hM⟩ := hv
  have F : gF p s m meth c cX8_advance RX8 2 none := gF_of B hml0
  obtain ⟨hx, hb, hml, hown, hlocks, hr⟩ := id F
  have hS : va_S (gA base) s.heap s.heap [] := va_S.rf
  have hl := lv_entry ([.ref (ad 60)]) (n := 2) (Nat.le_of_ble_eq_true rfl)
  rw [lg_entry_eq]
  generalize (lg_sl ([.ref (ad 60)]) ++ List.replicate (2 - (lg_sl ([.ref (ad 60)])).length) Slot.unset).toArray = ls at hl ⊢
  have hl : lv_has ls 2 [(0, .ref (ad 60))] := hl
  unfold f_X8_advance at h
  obtain ⟨z28, h1, h⟩ := gbind_e h
  refine wl_X8_advance_0 F E (r := z28) (fun q5 H locs ls e1 hM hS hl => ?_) gFuel μ h1 hM hS hl
  replace e1 : z28 = q5 := e1
  rw [e1] at h
  refine lv_aload_n hx hb dX8_advance_31 rfl (lv_at hl 0 rfl) ?_
  refine lv_aload_n hx hb dX8_advance_32 rfl (lv_at hl 0 rfl) ?_
  refine gg_60_12 hx hb hown E hM hk_60 kw_1254 dX8_advance_33 ?_
  refine gp_60_13 hx hb hown E hM hS hk_60 kw_1255 dX8_advance_36 (fun H locs hM hS => ?_)
  refine lv_aload_n hx hb dX8_advance_39 rfl (lv_at hl 0 rfl) ?_
  refine lv_lconst (v := (0 : Int64)) hx hb dX8_advance_40 (by decide) ?_
  refine gp_60_15 hx hb hown E hM hS hk_60 kw_1257 dX8_advance_41 (fun H locs hM hS => ?_)
  refine lv_aload_n hx hb dX8_advance_44 rfl (lv_at hl 0 rfl) ?_
  refine lv_iconst (v := (0 : Int32)) hx hb dX8_advance_45 (by decide) ?_
  refine gp_60_16 hx hb hown E hM hS hk_60 kw_1258 dX8_advance_46 (fun H locs hM hS => ?_)
  refine lv_aload_n hx hb dX8_advance_49 rfl (lv_at hl 0 rfl) ?_
  obtain ⟨q6, hq6, h⟩ := gbind_e h
  refine g_callV (As := []) (rest := []) hx hb (hml.trans hl.1.symm) hown E hM hS hy_X8_peek kw_1386 (c_X8_peek hq6) hk_60 dd_60 rfl rfl rfl (Nat.le_of_ble_eq_true rfl) ⟨Nat.le_of_ble_eq_true rfl, Nat.le_of_ble_eq_true rfl⟩ ⟨Nat.le_of_ble_eq_true rfl, Nat.le_of_ble_eq_true rfl⟩ dX8_advance_50 (fun H locs hM hS => ?_)
  refine lv_istore_n (lv' := [(1, .int q6), (0, .ref (ad 60))]) hx hb dX8_advance_53 rfl hl (by decide) rfl (fun ls hl => ?_)
  refine lv_iload_n hx hb dX8_advance_54 rfl (lv_at hl 0 rfl) ?_
  refine lv_if_ge (tgt := 66) hx hb dX8_advance_55 (by decide) (fun c7 => ?_) (fun c7 => ?_)
  · replace h := gif_t c7 h
    refine lv_iload_n hx hb dX8_advance_66 rfl (lv_at hl 0 rfl) ?_
    refine lv_bipush (v := (97 : Int32)) hx hb dX8_advance_67 (by decide) ?_
    refine lv_bipush (v := (122 : Int32)) hx hb dX8_advance_69 (by decide) ?_
    obtain ⟨q8, hq8, h⟩ := gbind_e h
    refine g_callS (As := [.int q6, .int (97 : Int32), .int (122 : Int32)]) (rest := []) hx hb (hml.trans hl.1.symm) hown E hM hS hy_X8_inRange kw_1379 (c_X8_inRange hq8) rfl rfl (Nat.le_of_ble_eq_true rfl) ⟨Nat.le_of_ble_eq_true rfl, Nat.le_of_ble_eq_true rfl⟩ ⟨Nat.le_of_ble_eq_true rfl, Nat.le_of_ble_eq_true rfl⟩ dX8_advance_71 (fun H locs hM hS => ?_)
    refine lv_if_eq (tgt := 168) hx hb dX8_advance_74 (by decide) (fun c9 => ?_) (fun c9 => ?_)
    · replace h := gif_t c9 h
      refine lv_iload_n hx hb dX8_advance_168 rfl (lv_at hl 0 rfl) ?_
      refine lv_bipush (v := (48 : Int32)) hx hb dX8_advance_169 (by decide) ?_
      refine lv_bipush (v := (57 : Int32)) hx hb dX8_advance_171 (by decide) ?_
      obtain ⟨q10, hq10, h⟩ := gbind_e h
      refine g_callS (As := [.int q6, .int (48 : Int32), .int (57 : Int32)]) (rest := []) hx hb (hml.trans hl.1.symm) hown E hM hS hy_X8_inRange kw_1379 (c_X8_inRange hq10) rfl rfl (Nat.le_of_ble_eq_true rfl) ⟨Nat.le_of_ble_eq_true rfl, Nat.le_of_ble_eq_true rfl⟩ ⟨Nat.le_of_ble_eq_true rfl, Nat.le_of_ble_eq_true rfl⟩ dX8_advance_173 (fun H locs hM hS => ?_)
      refine lv_if_eq (tgt := 244) hx hb dX8_advance_176 (by decide) (fun c11 => ?_) (fun c11 => ?_)
      · replace h := gif_t c11 h
        refine lv_aload_n hx hb dX8_advance_244 rfl (lv_at hl 1 rfl) ?_
        refine lv_iload_n hx hb dX8_advance_245 rfl (lv_at hl 0 rfl) ?_
        refine lv_bipush (v := (59 : Int32)) hx hb dX8_advance_246 (by decide) ?_
        refine lv_icmp_ne (tgt := 255) hx hb dX8_advance_248 (by decide) (fun c12 => ?_) (fun c12 => ?_)
        · replace h := gif_f c12 h
          refine lv_iconst (v := (4 : Int32)) hx hb dX8_advance_255 (by decide) ?_
          exact wj_X8_advance_256 h F E hM hS (lv_sub hl [1] rfl)
        · replace h := gif_t c12 h
          refine lv_iconst (v := (3 : Int32)) hx hb dX8_advance_251 (by decide) ?_
          refine lv_goto (tgt := 256) hx hb dX8_advance_252 (by decide) ?_
          exact wj_X8_advance_256 h F E hM hS (lv_sub hl [1] rfl)
      · replace h := gif_f c11 h
        refine lv_aload_n hx hb dX8_advance_179 rfl (lv_at hl 1 rfl) ?_
        refine lv_iconst (v := (2 : Int32)) hx hb dX8_advance_180 (by decide) ?_
        refine gp_60_14 hx hb hown E hM hS hk_60 kw_1256 dX8_advance_181 (fun H locs hM hS => ?_)
        obtain ⟨z19, h1, h⟩ := gbind_e h
        refine wl_X8_advance_184 F E (r := z19) (fun q18 H locs ls e1 hM hS hl => ?_) gFuel (si (si (sl (si q5 60 13 (gi q5 60 12)) 60 15 (0 : Int64)) 60 16 (0 : Int32)) 60 14 (2 : Int32)) h1 hM hS (lv_sub hl [1] rfl)
        replace e1 : z19 = q18 := e1
        rw [e1] at h
        obtain rfl := Option.some.inj h
        exact g_vret hx hb hr hlocks hM hS dX8_advance_269
    · replace h := gif_f c9 h
      refine lv_aload_n hx hb dX8_advance_77 rfl (lv_at hl 1 rfl) ?_
      refine lv_iconst (v := (1 : Int32)) hx hb dX8_advance_78 (by decide) ?_
      refine gp_60_14 hx hb hown E hM hS hk_60 kw_1256 dX8_advance_79 (fun H locs hM hS => ?_)
      obtain ⟨z27, h1, h⟩ := gbind_e h
      refine wl_X8_advance_82 F E (r := z27) (fun q25 H locs ls e1 hM hS hl => ?_) gFuel (si (si (sl (si q5 60 13 (gi q5 60 12)) 60 15 (0 : Int64)) 60 16 (0 : Int32)) 60 14 (1 : Int32)) h1 hM hS (lv_sub hl [1] rfl)
      replace e1 : z27 = q25 := e1
      rw [e1] at h
      refine lv_aload_n hx hb dX8_advance_146 rfl (lv_at hl 0 rfl) ?_
      refine gg_60_12 hx hb hown E hM hk_60 kw_1254 dX8_advance_147 ?_
      refine lv_aload_n hx hb dX8_advance_150 rfl (lv_at hl 0 rfl) ?_
      refine gg_60_13 hx hb hown E hM hk_60 kw_1255 dX8_advance_151 ?_
      refine lv_isub hx hb dX8_advance_154 ?_
      refine lv_bipush (v := (12 : Int32)) hx hb dX8_advance_155 (by decide) ?_
      refine lv_icmp_le (tgt := 269) hx hb dX8_advance_157 (by decide) (fun c26 => ?_) (fun c26 => ?_)
      · replace h := gif_t c26 h
        obtain rfl := Option.some.inj h
        exact g_vret hx hb hr hlocks hM hS dX8_advance_269
      · replace h := gif_f c26 h
        refine lv_aload_n hx hb dX8_advance_160 rfl (lv_at hl 0 rfl) ?_
        refine lv_lconst (v := (0 : Int64)) hx hb dX8_advance_161 (by decide) ?_
        refine gp_60_15 hx hb hown E hM hS hk_60 kw_1257 dX8_advance_162 (fun H locs hM hS => ?_)
        refine lv_goto (tgt := 269) hx hb dX8_advance_165 (by decide) ?_
        obtain rfl := Option.some.inj h
        exact g_vret hx hb hr hlocks hM hS dX8_advance_269
  · replace h := gif_f c7 h
    refine lv_aload_n hx hb dX8_advance_58 rfl (lv_at hl 1 rfl) ?_
    refine lv_iconst (v := (0 : Int32)) hx hb dX8_advance_59 (by decide) ?_
    refine gp_60_14 hx hb hown E hM hS hk_60 kw_1256 dX8_advance_60 (fun H locs hM hS => ?_)
    refine lv_goto (tgt := 269) hx hb dX8_advance_63 (by decide) ?_
    obtain rfl := Option.some.inj h
    exact g_vret hx hb hr hlocks hM hS dX8_advance_269
def f_X8_check (p1 : Int32) (p2 : Int32) (μ : gM) : Option (gM) :=
  if (p1 = 0) then if ((gi μ 60 17) = 0) then some (si (si μ 60 17 p2) 60 18 (gi (si μ 60 17 p2) 60 13)) else some μ else some μ
set_option maxHeartbeats 4000000 in
set_option maxRecDepth 100000 in
theorem c_X8_check {l : Launch} {D : va_G} {cy : Nat → ClassId} {ad : Nat → Nat} {base : Nat} {p1 : Int32} {p2 : Int32} {μ : gM} {RES : gM} (h : f_X8_check p1 p2 μ = some RES) : Met l yX8_check [.code yX8_check cX8_check 3 none] ({ frames := 0, cells := 0, slots := 0, locals := 0 } : Room) (va_Pc [.ref (ad 60), .int p1, .int p2] (gB l gFull D cy ad base μ)) (gQ none gFull D cy ad base RES) 0 0 (gA base) := by
  refine Met.ofW (cc := cX8_check) (maxL := 3) (ret := none) (by decide) rfl ?_
  intro p e s m args below meth c s₁ B hml0 hv
  obtain ⟨rfl, E, hM⟩ := hv
  have F : gF p s m meth c cX8_check RX8 3 none := gF_of B hml0
  obtain ⟨hx, hb, hml, hown, hlocks, hr⟩ := id F
  have hS : va_S (gA base) s.heap s.heap [] := va_S.rf
  have hl := lv_entry ([.ref (ad 60), .int p1, .int p2]) (n := 3) (Nat.le_of_ble_eq_true rfl)
  rw [lg_entry_eq]
  generalize (lg_sl ([.ref (ad 60), .int p1, .int p2]) ++ List.replicate (3 - (lg_sl ([.ref (ad 60), .int p1, .int p2])).length) Slot.unset).toArray = ls at hl ⊢
  have hl : lv_has ls 3 [(0, .ref (ad 60)), (1, .int p1), (2, .int p2)] := hl
  unfold f_X8_check at h
  refine lv_iload_n hx hb dX8_check_0 rfl (lv_at hl 1 rfl) ?_
  refine lv_if_ne (tgt := 11) hx hb dX8_check_1 (by decide) (fun c1 => ?_) (fun c1 => ?_)
  · replace h := gif_f c1 h
    obtain rfl := Option.some.inj h
    exact g_vret hx hb hr hlocks hM hS dX8_check_11
  · replace h := gif_t c1 h
    refine lv_aload_n hx hb dX8_check_4 rfl (lv_at hl 0 rfl) ?_
    refine gg_60_17 hx hb hown E hM hk_60 kw_1259 dX8_check_5 ?_
    refine lv_if_eq (tgt := 12) hx hb dX8_check_8 (by decide) (fun c2 => ?_) (fun c2 => ?_)
    · replace h := gif_t c2 h
      refine lv_aload_n hx hb dX8_check_12 rfl (lv_at hl 0 rfl) ?_
      refine lv_iload_n hx hb dX8_check_13 rfl (lv_at hl 2 rfl) ?_
      refine gp_60_17 hx hb hown E hM hS hk_60 kw_1259 dX8_check_14 (fun H locs hM hS => ?_)
      refine lv_aload_n hx hb dX8_check_17 rfl (lv_at hl 0 rfl) ?_
      refine lv_aload_n hx hb dX8_check_18 rfl (lv_at hl 0 rfl) ?_
      refine gg_60_13 hx hb hown E hM hk_60 kw_1255 dX8_check_19 ?_
      refine gp_60_18 hx hb hown E hM hS hk_60 kw_1260 dX8_check_22 (fun H locs hM hS => ?_)
      obtain rfl := Option.some.inj h
      exact g_vret hx hb hr hlocks hM hS dX8_check_25
    · replace h := gif_f c2 h
      obtain rfl := Option.some.inj h
      exact g_vret hx hb hr hlocks hM hS dX8_check_11
def f_X8_advanceIfGood (μ : gM) : Option (gM) :=
  if ((gi μ 60 17) = 0) then Option.bind (f_X8_advance  μ) (fun q2 => some q2) else some μ
set_option maxHeartbeats 4000000 in
set_option maxRecDepth 100000 in
theorem c_X8_advanceIfGood {l : Launch} {D : va_G} {cy : Nat → ClassId} {ad : Nat → Nat} {base : Nat}  {μ : gM} {RES : gM} (h : f_X8_advanceIfGood  μ = some RES) : Met l yX8_advanceIfGood [.code yX8_advanceIfGood cX8_advanceIfGood 1 none] ({ frames := 2, cells := 0, slots := 0, locals := 43 } : Room) (va_Pc [.ref (ad 60)] (gB l gFull D cy ad base μ)) (gQ none gFull D cy ad base RES) 0 0 (gA base) := by
  refine Met.ofW (cc := cX8_advanceIfGood) (maxL := 1) (ret := none) (by decide) rfl ?_
  intro p e s m args below meth c s₁ B hml0 hv
  obtain ⟨rfl, E, hM⟩ := hv
  have F : gF p s m meth c cX8_advanceIfGood RX8 1 none := gF_of B hml0
  obtain ⟨hx, hb, hml, hown, hlocks, hr⟩ := id F
  have hS : va_S (gA base) s.heap s.heap [] := va_S.rf
  have hl := lv_entry ([.ref (ad 60)]) (n := 1) (Nat.le_of_ble_eq_true rfl)
  rw [lg_entry_eq]
  generalize (lg_sl ([.ref (ad 60)]) ++ List.replicate (1 - (lg_sl ([.ref (ad 60)])).length) Slot.unset).toArray = ls at hl ⊢
  have hl : lv_has ls 1 [(0, .ref (ad 60))] := hl
  unfold f_X8_advanceIfGood at h
  refine lv_aload_n hx hb dX8_advanceIfGood_0 rfl (lv_at hl 0 rfl) ?_
  refine gg_60_17 hx hb hown E hM hk_60 kw_1259 dX8_advanceIfGood_1 ?_
  refine lv_if_ne (tgt := 11) hx hb dX8_advanceIfGood_4 (by decide) (fun c1 => ?_) (fun c1 => ?_)
  · replace h := gif_f c1 h
    obtain rfl := Option.some.inj h
    exact g_vret hx hb hr hlocks hM hS dX8_advanceIfGood_11
  · replace h := gif_t c1 h
    refine lv_aload_n hx hb dX8_advanceIfGood_7 rfl (lv_at hl 0 rfl) ?_
    obtain ⟨q2, hq2, h⟩ := gbind_e h
    refine g_callV (As := []) (rest := []) hx hb (hml.trans hl.1.symm) hown E hM hS hy_X8_advance kw_1382 (c_X8_advance hq2) hk_60 dd_60 rfl rfl rfl (Nat.le_of_ble_eq_true rfl) ⟨Nat.le_of_ble_eq_true rfl, Nat.le_of_ble_eq_true rfl⟩ ⟨Nat.le_of_ble_eq_true rfl, Nat.le_of_ble_eq_true rfl⟩ dX8_advanceIfGood_8 (fun H locs hM hS => ?_)
    obtain rfl := Option.some.inj h
    exact g_vret hx hb hr hlocks hM hS dX8_advanceIfGood_11
def f_X8_isWord (p1 : Int64) (μ : gM) : Option (Bool) :=
  if ((gi μ 60 17) = 0) then if ((gi μ 60 14) = (1 : Int32)) then if ((gl μ 60 15) = p1) then some true else some false else some false else some false
set_option maxHeartbeats 4000000 in
set_option maxRecDepth 100000 in
theorem c_X8_isWord {l : Launch} {D : va_G} {cy : Nat → ClassId} {ad : Nat → Nat} {base : Nat} {p1 : Int64} {μ : gM} {RES : Bool} (h : f_X8_isWord p1 μ = some RES) : Met l yX8_isWord [.code yX8_isWord cX8_isWord 3 (some .boolean)] ({ frames := 0, cells := 0, slots := 0, locals := 0 } : Room) (va_Pc [.ref (ad 60), .long p1] (gB l gFull D cy ad base μ)) (gQ (some (.int (b2i RES))) gFull D cy ad base μ) 0 0 (gA base) := by
  refine Met.ofW (cc := cX8_isWord) (maxL := 3) (ret := (some .boolean)) (by decide) rfl ?_
  intro p e s m args below meth c s₁ B hml0 hv
  obtain ⟨rfl, E, hM⟩ := hv
  have F : gF p s m meth c cX8_isWord RX8 3 (some .boolean) := gF_of B hml0
  obtain ⟨hx, hb, hml, hown, hlocks, hr⟩ := id F
  have hS : va_S (gA base) s.heap s.heap [] := va_S.rf
  have hl := lv_entry ([.ref (ad 60), .long p1]) (n := 3) (Nat.le_of_ble_eq_true rfl)
  rw [lg_entry_eq]
  generalize (lg_sl ([.ref (ad 60), .long p1]) ++ List.replicate (3 - (lg_sl ([.ref (ad 60), .long p1])).length) Slot.unset).toArray = ls at hl ⊢
  have hl : lv_has ls 3 [(0, .ref (ad 60)), (1, .long p1)] := hl
  unfold f_X8_isWord at h
  refine lv_aload_n hx hb dX8_isWord_0 rfl (lv_at hl 0 rfl) ?_
  refine gg_60_17 hx hb hown E hM hk_60 kw_1259 dX8_isWord_1 ?_
  refine lv_if_ne (tgt := 28) hx hb dX8_isWord_4 (by decide) (fun c1 => ?_) (fun c1 => ?_)
  · replace h := gif_f c1 h
    refine lv_iconst (v := (0 : Int32)) hx hb dX8_isWord_28 (by decide) ?_
    obtain rfl := Option.some.inj h
    exact g_zret (v := b2i false) hx hb hr hlocks (b2i_nar false) hM hS dX8_isWord_29
  · replace h := gif_t c1 h
    refine lv_aload_n hx hb dX8_isWord_7 rfl (lv_at hl 0 rfl) ?_
    refine gg_60_14 hx hb hown E hM hk_60 kw_1256 dX8_isWord_8 ?_
    refine lv_iconst (v := (1 : Int32)) hx hb dX8_isWord_11 (by decide) ?_
    refine lv_icmp_ne (tgt := 28) hx hb dX8_isWord_12 (by decide) (fun c2 => ?_) (fun c2 => ?_)
    · replace h := gif_f c2 h
      refine lv_iconst (v := (0 : Int32)) hx hb dX8_isWord_28 (by decide) ?_
      obtain rfl := Option.some.inj h
      exact g_zret (v := b2i false) hx hb hr hlocks (b2i_nar false) hM hS dX8_isWord_29
    · replace h := gif_t c2 h
      refine lv_aload_n hx hb dX8_isWord_15 rfl (lv_at hl 0 rfl) ?_
      refine gg_60_15 hx hb hown E hM hk_60 kw_1257 dX8_isWord_16 ?_
      refine lv_lload_n hx hb dX8_isWord_19 rfl (lv_at hl 1 rfl) ?_
      refine W.lcmp hx hb dX8_isWord_20 ?_
      refine lv_if_ne (tgt := 28) hx hb dX8_isWord_21 (by decide) (fun c3 => ?_) (fun c3 => ?_)
      · replace c3 := fun w => c3 ((lg_cmp_eq _ _).mpr w)
        replace h := gif_f c3 h
        refine lv_iconst (v := (0 : Int32)) hx hb dX8_isWord_28 (by decide) ?_
        obtain rfl := Option.some.inj h
        exact g_zret (v := b2i false) hx hb hr hlocks (b2i_nar false) hM hS dX8_isWord_29
      · replace c3 := (lg_cmp_eq _ _).mp c3
        replace h := gif_t c3 h
        refine lv_iconst (v := (1 : Int32)) hx hb dX8_isWord_24 (by decide) ?_
        refine lv_goto (tgt := 29) hx hb dX8_isWord_25 (by decide) ?_
        obtain rfl := Option.some.inj h
        exact g_zret (v := b2i true) hx hb hr hlocks (b2i_nar true) hM hS dX8_isWord_29
def j_X8_readInteger_14 (x1 : Int32) (x2 : Int32) (y1 : Int32) (μ : gM) : Option (Int32 × gM) :=
  Option.bind (f_X8_check y1 (-11 : Int32) μ) (fun q2 => Option.bind (f_X8_inRange (gi q2 60 16) x1 x2 q2) (fun q3 => Option.bind (f_X8_check (b2i q3) (-12 : Int32) q2) (fun q4 => Option.bind (f_X8_advanceIfGood  q4) (fun q5 => some ((gi q4 60 16), q5)))))
set_option maxHeartbeats 4000000 in
set_option maxRecDepth 100000 in
theorem wj_X8_readInteger_14 {p : Program} {l : Launch} {e : Env} {s : State} {m : MethodId} {args : Array Value} {below : List Frame} {meth : Method} {c : Code} {D : va_G} {cy : Nat → ClassId} {ad : Nat → Nat} {base : Nat} {x1 : Int32} {x2 : Int32} {y1 : Int32} {μ : gM} {o : Int32 × gM} (h : j_X8_readInteger_14 x1 x2 y1 μ = some o) (F : gF p s m meth c cX8_readInteger RX8 4 (some .int)) (E : gEnv l D cy ad base s)  {H : Heap} {locs : List Loc} {ls : Array Slot} (hM : gW gFull D cy ad base μ H) (hS : va_S (gA base) s.heap H locs) (hl : lv_has ls 4 [(0, .ref (ad 60)), (1, .int x1), (2, .int x2)]) : W p l e ({ frames := 3, cells := 0, slots := 0, locals := 63 } : Room) s m args below meth c H locs 0 0 (MQ below (gQ (some (.int o.1)) gFull D cy ad base o.2) args s 0 0 (gA base)) (F0 m 14 ls [.int y1, .ref (ad 60)]) := by
  obtain ⟨hx, hb, hml, hown, hlocks, hr⟩ := id F
  unfold j_X8_readInteger_14 at h
  refine lv_bipush (v := (-11 : Int32)) hx hb dX8_readInteger_14 (by decide) ?_
  obtain ⟨q2, hq2, h⟩ := gbind_e h
  refine g_callV (As := [.int y1, .int (-11 : Int32)]) (rest := []) hx hb (hml.trans hl.1.symm) hown E hM hS hy_X8_check kw_1409 (c_X8_check hq2) hk_60 dd_60 rfl rfl rfl (Nat.le_of_ble_eq_true rfl) ⟨Nat.le_of_ble_eq_true rfl, Nat.le_of_ble_eq_true rfl⟩ ⟨Nat.le_of_ble_eq_true rfl, Nat.le_of_ble_eq_true rfl⟩ dX8_readInteger_16 (fun H locs hM hS => ?_)
  refine lv_aload_n hx hb dX8_readInteger_19 rfl (lv_at hl 0 rfl) ?_
  refine lv_aload_n hx hb dX8_readInteger_20 rfl (lv_at hl 0 rfl) ?_
  refine gg_60_16 hx hb hown E hM hk_60 kw_1258 dX8_readInteger_21 ?_
  refine lv_iload_n hx hb dX8_readInteger_24 rfl (lv_at hl 1 rfl) ?_
  refine lv_iload_n hx hb dX8_readInteger_25 rfl (lv_at hl 2 rfl) ?_
  obtain ⟨q3, hq3, h⟩ := gbind_e h
  refine g_callS (As := [.int (gi q2 60 16), .int x1, .int x2]) (rest := [.ref (ad 60)]) hx hb (hml.trans hl.1.symm) hown E hM hS hy_X8_inRange kw_1379 (c_X8_inRange hq3) rfl rfl (Nat.le_of_ble_eq_true rfl) ⟨Nat.le_of_ble_eq_true rfl, Nat.le_of_ble_eq_true rfl⟩ ⟨Nat.le_of_ble_eq_true rfl, Nat.le_of_ble_eq_true rfl⟩ dX8_readInteger_26 (fun H locs hM hS => ?_)
  refine lv_bipush (v := (-12 : Int32)) hx hb dX8_readInteger_29 (by decide) ?_
  obtain ⟨q4, hq4, h⟩ := gbind_e h
  refine g_callV (As := [.int (b2i q3), .int (-12 : Int32)]) (rest := []) hx hb (hml.trans hl.1.symm) hown E hM hS hy_X8_check kw_1409 (c_X8_check hq4) hk_60 dd_60 rfl rfl rfl (Nat.le_of_ble_eq_true rfl) ⟨Nat.le_of_ble_eq_true rfl, Nat.le_of_ble_eq_true rfl⟩ ⟨Nat.le_of_ble_eq_true rfl, Nat.le_of_ble_eq_true rfl⟩ dX8_readInteger_31 (fun H locs hM hS => ?_)
  refine lv_aload_n hx hb dX8_readInteger_34 rfl (lv_at hl 0 rfl) ?_
  refine gg_60_16 hx hb hown E hM hk_60 kw_1258 dX8_readInteger_35 ?_
  refine lv_istore_n (lv' := [(3, .int (gi q4 60 16)), (0, .ref (ad 60)), (1, .int x1), (2, .int x2)]) hx hb dX8_readInteger_38 rfl hl (by decide) rfl (fun ls hl => ?_)
  refine lv_aload_n hx hb dX8_readInteger_39 rfl (lv_at hl 1 rfl) ?_
  obtain ⟨q5, hq5, h⟩ := gbind_e h
  refine g_callV (As := []) (rest := []) hx hb (hml.trans hl.1.symm) hown E hM hS hy_X8_advanceIfGood kw_1413 (c_X8_advanceIfGood hq5) hk_60 dd_60 rfl rfl rfl (Nat.le_of_ble_eq_true rfl) ⟨Nat.le_of_ble_eq_true rfl, Nat.le_of_ble_eq_true rfl⟩ ⟨Nat.le_of_ble_eq_true rfl, Nat.le_of_ble_eq_true rfl⟩ dX8_readInteger_40 (fun H locs hM hS => ?_)
  refine lv_iload_n hx hb dX8_readInteger_43 rfl (lv_at hl 0 rfl) ?_
  obtain rfl := Option.some.inj h
  exact g_iret hx hb hr hlocks hM hS dX8_readInteger_44
def f_X8_readInteger (p1 : Int32) (p2 : Int32) (μ : gM) : Option (Int32 × gM) :=
  if ((gi μ 60 14) = (2 : Int32)) then j_X8_readInteger_14 p1 p2 (1 : Int32) μ else j_X8_readInteger_14 p1 p2 (0 : Int32) μ
set_option maxHeartbeats 4000000 in
set_option maxRecDepth 100000 in
theorem c_X8_readInteger {l : Launch} {D : va_G} {cy : Nat → ClassId} {ad : Nat → Nat} {base : Nat} {p1 : Int32} {p2 : Int32} {μ : gM} {RES : Int32 × gM} (h : f_X8_readInteger p1 p2 μ = some RES) : Met l yX8_readInteger [.code yX8_readInteger cX8_readInteger 4 (some .int)] ({ frames := 3, cells := 0, slots := 0, locals := 63 } : Room) (va_Pc [.ref (ad 60), .int p1, .int p2] (gB l gFull D cy ad base μ)) (gQ (some (.int RES.1)) gFull D cy ad base RES.2) 0 0 (gA base) := by
  refine Met.ofW (cc := cX8_readInteger) (maxL := 4) (ret := (some .int)) (by decide) rfl ?_
  intro p e s m args below meth c s₁ B hml0 hv
  obtain ⟨rfl, E, hM⟩ := hv
  have F : gF p s m meth c cX8_readInteger RX8 4 (some .int) := gF_of B hml0
  obtain ⟨hx, hb, hml, hown, hlocks, hr⟩ := id F
  have hS : va_S (gA base) s.heap s.heap [] := va_S.rf
  have hl := lv_entry ([.ref (ad 60), .int p1, .int p2]) (n := 4) (Nat.le_of_ble_eq_true rfl)
  rw [lg_entry_eq]
  generalize (lg_sl ([.ref (ad 60), .int p1, .int p2]) ++ List.replicate (4 - (lg_sl ([.ref (ad 60), .int p1, .int p2])).length) Slot.unset).toArray = ls at hl ⊢
  have hl : lv_has ls 4 [(0, .ref (ad 60)), (1, .int p1), (2, .int p2)] := hl
  unfold f_X8_readInteger at h
  refine lv_aload_n hx hb dX8_readInteger_0 rfl (lv_at hl 0 rfl) ?_
  refine lv_aload_n hx hb dX8_readInteger_1 rfl (lv_at hl 0 rfl) ?_
  refine gg_60_14 hx hb hown E hM hk_60 kw_1256 dX8_readInteger_2 ?_
  refine lv_iconst (v := (2 : Int32)) hx hb dX8_readInteger_5 (by decide) ?_
  refine lv_icmp_ne (tgt := 13) hx hb dX8_readInteger_6 (by decide) (fun c1 => ?_) (fun c1 => ?_)
  · replace h := gif_f c1 h
    refine lv_iconst (v := (0 : Int32)) hx hb dX8_readInteger_13 (by decide) ?_
    exact wj_X8_readInteger_14 h F E hM hS hl
  · replace h := gif_t c1 h
    refine lv_iconst (v := (1 : Int32)) hx hb dX8_readInteger_9 (by decide) ?_
    refine lv_goto (tgt := 14) hx hb dX8_readInteger_10 (by decide) ?_
    exact wj_X8_readInteger_14 h F E hM hS hl
def f_X8_isKeyword (μ : gM) : Option (Bool) :=
  if ((gl μ 60 15) = (12769452 : Int64)) then some true else if ((gl μ 60 15) = (147182 : Int64)) then some true else if ((gl μ 60 15) = (17278420 : Int64)) then some true else if ((gl μ 60 15) = (402885 : Int64)) then some true else if ((gl μ 60 15) = (661108 : Int64)) then some true else if ((gl μ 60 15) = (19636 : Int64)) then some true else if ((gl μ 60 15) = (20225300 : Int64)) then some true else some false
set_option maxHeartbeats 4000000 in
set_option maxRecDepth 100000 in
theorem c_X8_isKeyword {l : Launch} {D : va_G} {cy : Nat → ClassId} {ad : Nat → Nat} {base : Nat}  {μ : gM} {RES : Bool} (h : f_X8_isKeyword  μ = some RES) : Met l yX8_isKeyword [.code yX8_isKeyword cX8_isKeyword 1 (some .boolean)] ({ frames := 0, cells := 0, slots := 0, locals := 0 } : Room) (va_Pc [.ref (ad 60)] (gB l gFull D cy ad base μ)) (gQ (some (.int (b2i RES))) gFull D cy ad base μ) 0 0 (gA base) := by
  refine Met.ofW (cc := cX8_isKeyword) (maxL := 1) (ret := (some .boolean)) (by decide) rfl ?_
  intro p e s m args below meth c s₁ B hml0 hv
  obtain ⟨rfl, E, hM⟩ := hv
  have F : gF p s m meth c cX8_isKeyword RX8 1 (some .boolean) := gF_of B hml0
  obtain ⟨hx, hb, hml, hown, hlocks, hr⟩ := id F
  have hS : va_S (gA base) s.heap s.heap [] := va_S.rf
  have hl := lv_entry ([.ref (ad 60)]) (n := 1) (Nat.le_of_ble_eq_true rfl)
  rw [lg_entry_eq]
  generalize (lg_sl ([.ref (ad 60)]) ++ List.replicate (1 - (lg_sl ([.ref (ad 60)])).length) Slot.unset).toArray = ls at hl ⊢
  have hl : lv_has ls 1 [(0, .ref (ad 60))] := hl
  unfold f_X8_isKeyword at h
  refine lv_aload_n hx hb dX8_isKeyword_0 rfl (lv_at hl 0 rfl) ?_
  refine gg_60_15 hx hb hown E hM hk_60 kw_1257 dX8_isKeyword_1 ?_
  refine lv_ldc2 hx hb hown (v := (12769452 : Int64)) (E.kw kw_1396) dX8_isKeyword_4 ?_
  refine W.lcmp hx hb dX8_isKeyword_7 ?_
  refine lv_if_eq (tgt := 77) hx hb dX8_isKeyword_8 (by decide) (fun c1 => ?_) (fun c1 => ?_)
  · replace c1 := (lg_cmp_eq _ _).mp c1
    replace h := gif_t c1 h
    refine lv_iconst (v := (1 : Int32)) hx hb dX8_isKeyword_77 (by decide) ?_
    refine lv_goto (tgt := 82) hx hb dX8_isKeyword_78 (by decide) ?_
    obtain rfl := Option.some.inj h
    exact g_zret (v := b2i true) hx hb hr hlocks (b2i_nar true) hM hS dX8_isKeyword_82
  · replace c1 := fun w => c1 ((lg_cmp_eq _ _).mpr w)
    replace h := gif_f c1 h
    refine lv_aload_n hx hb dX8_isKeyword_11 rfl (lv_at hl 0 rfl) ?_
    refine gg_60_15 hx hb hown E hM hk_60 kw_1257 dX8_isKeyword_12 ?_
    refine lv_ldc2 hx hb hown (v := (147182 : Int64)) (E.kw kw_1429) dX8_isKeyword_15 ?_
    refine W.lcmp hx hb dX8_isKeyword_18 ?_
    refine lv_if_eq (tgt := 77) hx hb dX8_isKeyword_19 (by decide) (fun c2 => ?_) (fun c2 => ?_)
    · replace c2 := (lg_cmp_eq _ _).mp c2
      replace h := gif_t c2 h
      refine lv_iconst (v := (1 : Int32)) hx hb dX8_isKeyword_77 (by decide) ?_
      refine lv_goto (tgt := 82) hx hb dX8_isKeyword_78 (by decide) ?_
      obtain rfl := Option.some.inj h
      exact g_zret (v := b2i true) hx hb hr hlocks (b2i_nar true) hM hS dX8_isKeyword_82
    · replace c2 := fun w => c2 ((lg_cmp_eq _ _).mpr w)
      replace h := gif_f c2 h
      refine lv_aload_n hx hb dX8_isKeyword_22 rfl (lv_at hl 0 rfl) ?_
      refine gg_60_15 hx hb hown E hM hk_60 kw_1257 dX8_isKeyword_23 ?_
      refine lv_ldc2 hx hb hown (v := (17278420 : Int64)) (E.kw kw_1430) dX8_isKeyword_26 ?_
      refine W.lcmp hx hb dX8_isKeyword_29 ?_
      refine lv_if_eq (tgt := 77) hx hb dX8_isKeyword_30 (by decide) (fun c3 => ?_) (fun c3 => ?_)
      · replace c3 := (lg_cmp_eq _ _).mp c3
        replace h := gif_t c3 h
        refine lv_iconst (v := (1 : Int32)) hx hb dX8_isKeyword_77 (by decide) ?_
        refine lv_goto (tgt := 82) hx hb dX8_isKeyword_78 (by decide) ?_
        obtain rfl := Option.some.inj h
        exact g_zret (v := b2i true) hx hb hr hlocks (b2i_nar true) hM hS dX8_isKeyword_82
      · replace c3 := fun w => c3 ((lg_cmp_eq _ _).mpr w)
        replace h := gif_f c3 h
        refine lv_aload_n hx hb dX8_isKeyword_33 rfl (lv_at hl 0 rfl) ?_
        refine gg_60_15 hx hb hown E hM hk_60 kw_1257 dX8_isKeyword_34 ?_
        refine lv_ldc2 hx hb hown (v := (402885 : Int64)) (E.kw kw_1431) dX8_isKeyword_37 ?_
        refine W.lcmp hx hb dX8_isKeyword_40 ?_
        refine lv_if_eq (tgt := 77) hx hb dX8_isKeyword_41 (by decide) (fun c4 => ?_) (fun c4 => ?_)
        · replace c4 := (lg_cmp_eq _ _).mp c4
          replace h := gif_t c4 h
          refine lv_iconst (v := (1 : Int32)) hx hb dX8_isKeyword_77 (by decide) ?_
          refine lv_goto (tgt := 82) hx hb dX8_isKeyword_78 (by decide) ?_
          obtain rfl := Option.some.inj h
          exact g_zret (v := b2i true) hx hb hr hlocks (b2i_nar true) hM hS dX8_isKeyword_82
        · replace c4 := fun w => c4 ((lg_cmp_eq _ _).mpr w)
          replace h := gif_f c4 h
          refine lv_aload_n hx hb dX8_isKeyword_44 rfl (lv_at hl 0 rfl) ?_
          refine gg_60_15 hx hb hown E hM hk_60 kw_1257 dX8_isKeyword_45 ?_
          refine lv_ldc2 hx hb hown (v := (661108 : Int64)) (E.kw kw_1432) dX8_isKeyword_48 ?_
          refine W.lcmp hx hb dX8_isKeyword_51 ?_
          refine lv_if_eq (tgt := 77) hx hb dX8_isKeyword_52 (by decide) (fun c5 => ?_) (fun c5 => ?_)
          · replace c5 := (lg_cmp_eq _ _).mp c5
            replace h := gif_t c5 h
            refine lv_iconst (v := (1 : Int32)) hx hb dX8_isKeyword_77 (by decide) ?_
            refine lv_goto (tgt := 82) hx hb dX8_isKeyword_78 (by decide) ?_
            obtain rfl := Option.some.inj h
            exact g_zret (v := b2i true) hx hb hr hlocks (b2i_nar true) hM hS dX8_isKeyword_82
          · replace c5 := fun w => c5 ((lg_cmp_eq _ _).mpr w)
            replace h := gif_f c5 h
            refine lv_aload_n hx hb dX8_isKeyword_55 rfl (lv_at hl 0 rfl) ?_
            refine gg_60_15 hx hb hown E hM hk_60 kw_1257 dX8_isKeyword_56 ?_
            refine lv_ldc2 hx hb hown (v := (19636 : Int64)) (E.kw kw_1433) dX8_isKeyword_59 ?_
            refine W.lcmp hx hb dX8_isKeyword_62 ?_
            refine lv_if_eq (tgt := 77) hx hb dX8_isKeyword_63 (by decide) (fun c6 => ?_) (fun c6 => ?_)
            · replace c6 := (lg_cmp_eq _ _).mp c6
              replace h := gif_t c6 h
              refine lv_iconst (v := (1 : Int32)) hx hb dX8_isKeyword_77 (by decide) ?_
              refine lv_goto (tgt := 82) hx hb dX8_isKeyword_78 (by decide) ?_
              obtain rfl := Option.some.inj h
              exact g_zret (v := b2i true) hx hb hr hlocks (b2i_nar true) hM hS dX8_isKeyword_82
            · replace c6 := fun w => c6 ((lg_cmp_eq _ _).mpr w)
              replace h := gif_f c6 h
              refine lv_aload_n hx hb dX8_isKeyword_66 rfl (lv_at hl 0 rfl) ?_
              refine gg_60_15 hx hb hown E hM hk_60 kw_1257 dX8_isKeyword_67 ?_
              refine lv_ldc2 hx hb hown (v := (20225300 : Int64)) (E.kw kw_1434) dX8_isKeyword_70 ?_
              refine W.lcmp hx hb dX8_isKeyword_73 ?_
              refine lv_if_ne (tgt := 81) hx hb dX8_isKeyword_74 (by decide) (fun c7 => ?_) (fun c7 => ?_)
              · replace c7 := fun w => c7 ((lg_cmp_eq _ _).mpr w)
                replace h := gif_f c7 h
                refine lv_iconst (v := (0 : Int32)) hx hb dX8_isKeyword_81 (by decide) ?_
                obtain rfl := Option.some.inj h
                exact g_zret (v := b2i false) hx hb hr hlocks (b2i_nar false) hM hS dX8_isKeyword_82
              · replace c7 := (lg_cmp_eq _ _).mp c7
                replace h := gif_t c7 h
                refine lv_iconst (v := (1 : Int32)) hx hb dX8_isKeyword_77 (by decide) ?_
                refine lv_goto (tgt := 82) hx hb dX8_isKeyword_78 (by decide) ?_
                obtain rfl := Option.some.inj h
                exact g_zret (v := b2i true) hx hb hr hlocks (b2i_nar true) hM hS dX8_isKeyword_82
def b_X8_lettersHere_56 (x1 : Int32) (x2 : Int32) (μ : gM) : Option ((Int32 × Int32) ⊕ (Int32)) :=
  if ((6 : Int32) ≤ x2) then some (.inr x1) else some (.inl ((x1 <<< ((5 : Int32) &&& 31)), (x2 + (1 : Int32))))
set_option maxHeartbeats 4000000 in
set_option maxRecDepth 100000 in
theorem wb_X8_lettersHere_56 {p : Program} {l : Launch} {e : Env} {s : State} {m : MethodId} {args : Array Value} {below : List Frame} {meth : Method} {c : Code} {D : va_G} {cy : Nat → ClassId} {ad : Nat → Nat} {base : Nat} {x1 : Int32} {x2 : Int32} {μ : gM} {o : (Int32 × Int32) ⊕ (Int32)} {RES : Int32 × gM} (h : b_X8_lettersHere_56 x1 x2 μ = some o) (F : gF p s m meth c cX8_lettersHere RX8 3 (some .int)) (E : gEnv l D cy ad base s) (kc : ∀ (t : Int32 × Int32) {H : Heap} {locs : List Loc} {ls : Array Slot}, o = .inl t → gW gFull D cy ad base μ H → va_S (gA base) s.heap H locs → lv_has ls 3 [(1, .int t.1), (2, .int t.2)] → W p l e ({ frames := 1, cells := 0, slots := 0, locals := 22 } : Room) s m args below meth c H locs 0 0 (MQ below (gQ (some (.int RES.1)) gFull D cy ad base RES.2) args s 0 0 (gA base)) (F0 m 56 ls [])) (kx : ∀ (t : Int32) {H : Heap} {locs : List Loc} {ls : Array Slot}, o = .inr t → gW gFull D cy ad base μ H → va_S (gA base) s.heap H locs → lv_has ls 3 [(1, .int t)] → W p l e ({ frames := 1, cells := 0, slots := 0, locals := 22 } : Room) s m args below meth c H locs 0 0 (MQ below (gQ (some (.int RES.1)) gFull D cy ad base RES.2) args s 0 0 (gA base)) (F0 m 72 ls []))  {H : Heap} {locs : List Loc} {ls : Array Slot} (hM : gW gFull D cy ad base μ H) (hS : va_S (gA base) s.heap H locs) (hl : lv_has ls 3 [(1, .int x1), (2, .int x2)]) : W p l e ({ frames := 1, cells := 0, slots := 0, locals := 22 } : Room) s m args below meth c H locs 0 0 (MQ below (gQ (some (.int RES.1)) gFull D cy ad base RES.2) args s 0 0 (gA base)) (F0 m 56 ls []) := by
  obtain ⟨hx, hb, hml, hown, hlocks, hr⟩ := id F
  unfold b_X8_lettersHere_56 at h
  refine lv_iload_n hx hb dX8_lettersHere_56 rfl (lv_at hl 1 rfl) ?_
  refine lv_bipush (v := (6 : Int32)) hx hb dX8_lettersHere_57 (by decide) ?_
  refine lv_icmp_ge (tgt := 72) hx hb dX8_lettersHere_59 (by decide) (fun c3 => ?_) (fun c3 => ?_)
  · replace h := gif_t c3 h
    exact kx _ (Option.some.inj h).symm hM hS (lv_sub hl [0] rfl)
  · replace h := gif_f c3 h
    refine lv_iload_n hx hb dX8_lettersHere_62 rfl (lv_at hl 0 rfl) ?_
    refine lv_iconst (v := (5 : Int32)) hx hb dX8_lettersHere_63 (by decide) ?_
    refine lv_ishl hx hb dX8_lettersHere_64 ?_
    refine lv_istore_n (lv' := [(1, .int (x1 <<< ((5 : Int32) &&& 31))), (2, .int x2)]) hx hb dX8_lettersHere_65 rfl hl (by decide) rfl (fun ls hl => ?_)
    refine lv_iinc (v := (x2 + (1 : Int32))) (lv' := [(2, .int (x2 + (1 : Int32))), (1, .int (x1 <<< ((5 : Int32) &&& 31)))]) hx hb dX8_lettersHere_66 hl (k := 1) rfl rfl (by decide) rfl (fun ls hl => ?_)
    refine lv_goto (tgt := 56) hx hb dX8_lettersHere_69 (by decide) ?_
    exact kc _ (Option.some.inj h).symm hM hS (lv_sub hl [1, 0] rfl)
set_option maxHeartbeats 4000000 in
theorem wl_X8_lettersHere_56 {p : Program} {l : Launch} {e : Env} {s : State} {m : MethodId} {args : Array Value} {below : List Frame} {meth : Method} {c : Code} {D : va_G} {cy : Nat → ClassId} {ad : Nat → Nat} {base : Nat}  {μ : gM} {r : Int32} {RES : Int32 × gM} (F : gF p s m meth c cX8_lettersHere RX8 3 (some .int)) (E : gEnv l D cy ad base s) (kx : ∀ (t : Int32) {H : Heap} {locs : List Loc} {ls : Array Slot}, r = t → gW gFull D cy ad base μ H → va_S (gA base) s.heap H locs → lv_has ls 3 [(1, .int t)] → W p l e ({ frames := 1, cells := 0, slots := 0, locals := 22 } : Room) s m args below meth c H locs 0 0 (MQ below (gQ (some (.int RES.1)) gFull D cy ad base RES.2) args s 0 0 (gA base)) (F0 m 72 ls []))  : ∀ (n : Nat) (x1 : Int32) (x2 : Int32), gloop (fun t => b_X8_lettersHere_56  t.1 t.2 μ) n (x1, x2) = some r → ∀ {H : Heap} {locs : List Loc} {ls : Array Slot}, gW gFull D cy ad base μ H → va_S (gA base) s.heap H locs → lv_has ls 3 [(1, .int x1), (2, .int x2)] → W p l e ({ frames := 1, cells := 0, slots := 0, locals := 22 } : Room) s m args below meth c H locs 0 0 (MQ below (gQ (some (.int RES.1)) gFull D cy ad base RES.2) args s 0 0 (gA base)) (F0 m 56 ls []) := by
  intro n
  induction n with
  | zero =>
    intro x1 x2 h
    exact (gloop_0 h).elim
  | succ n ih =>
    intro x1 x2 h H locs ls hM hS hl
    obtain ⟨o, h0, hc, hq⟩ := gloop_s h
    have h1 : b_X8_lettersHere_56 x1 x2 μ = some o := h0
    exact wb_X8_lettersHere_56 h1 F E (fun t H locs ls ho hM hS hl => ih t.1 t.2 (hc t ho) hM hS hl) (fun t H locs ls ho hM hS hl => kx t (hq _ ho).symm hM hS hl) hM hS hl
def j_X8_lettersHere_35 (y1 : Int32) (μ : gM) : Option (Int32 × gM) :=
  Option.bind (f_X8_check y1 (-11 : Int32) μ) (fun q2 => Option.bind (gloop (fun t => b_X8_lettersHere_56  t.1 t.2 q2) gFuel ((gl q2 60 15).toInt32, ((gi q2 60 12) - (gi q2 60 13)))) (fun q4 => some (q4, q2)))
set_option maxHeartbeats 4000000 in
set_option maxRecDepth 100000 in
theorem wj_X8_lettersHere_35 {p : Program} {l : Launch} {e : Env} {s : State} {m : MethodId} {args : Array Value} {below : List Frame} {meth : Method} {c : Code} {D : va_G} {cy : Nat → ClassId} {ad : Nat → Nat} {base : Nat} {y1 : Int32} {μ : gM} {o : Int32 × gM} (h : j_X8_lettersHere_35 y1 μ = some o) (F : gF p s m meth c cX8_lettersHere RX8 3 (some .int)) (E : gEnv l D cy ad base s)  {H : Heap} {locs : List Loc} {ls : Array Slot} (hM : gW gFull D cy ad base μ H) (hS : va_S (gA base) s.heap H locs) (hl : lv_has ls 3 [(0, .ref (ad 60))]) : W p l e ({ frames := 1, cells := 0, slots := 0, locals := 22 } : Room) s m args below meth c H locs 0 0 (MQ below (gQ (some (.int o.1)) gFull D cy ad base o.2) args s 0 0 (gA base)) (F0 m 35 ls [.int y1, .ref (ad 60)]) := by
  obtain ⟨hx, hb, hml, hown, hlocks, hr⟩ := id F
  unfold j_X8_lettersHere_35 at h
  refine lv_bipush (v := (-11 : Int32)) hx hb dX8_lettersHere_35 (by decide) ?_
  obtain ⟨q2, hq2, h⟩ := gbind_e h
  refine g_callV (As := [.int y1, .int (-11 : Int32)]) (rest := []) hx hb (hml.trans hl.1.symm) hown E hM hS hy_X8_check kw_1409 (c_X8_check hq2) hk_60 dd_60 rfl rfl rfl (Nat.le_of_ble_eq_true rfl) ⟨Nat.le_of_ble_eq_true rfl, Nat.le_of_ble_eq_true rfl⟩ ⟨Nat.le_of_ble_eq_true rfl, Nat.le_of_ble_eq_true rfl⟩ dX8_lettersHere_37 (fun H locs hM hS => ?_)
  refine lv_aload_n hx hb dX8_lettersHere_40 rfl (lv_at hl 0 rfl) ?_
  refine gg_60_15 hx hb hown E hM hk_60 kw_1257 dX8_lettersHere_41 ?_
  refine lv_l2i (v := (gl q2 60 15).toInt32) hx hb dX8_lettersHere_44 rfl ?_
  refine lv_istore_n (lv' := [(1, .int ((gl q2 60 15).toInt32)), (0, .ref (ad 60))]) hx hb dX8_lettersHere_45 rfl hl (by decide) rfl (fun ls hl => ?_)
  refine lv_aload_n hx hb dX8_lettersHere_46 rfl (lv_at hl 1 rfl) ?_
  refine gg_60_12 hx hb hown E hM hk_60 kw_1254 dX8_lettersHere_47 ?_
  refine lv_aload_n hx hb dX8_lettersHere_50 rfl (lv_at hl 1 rfl) ?_
  refine gg_60_13 hx hb hown E hM hk_60 kw_1255 dX8_lettersHere_51 ?_
  refine lv_isub hx hb dX8_lettersHere_54 ?_
  refine lv_istore_n (lv' := [(2, .int ((gi q2 60 12) - (gi q2 60 13))), (1, .int ((gl q2 60 15).toInt32)), (0, .ref (ad 60))]) hx hb dX8_lettersHere_55 rfl hl (by decide) rfl (fun ls hl => ?_)
  obtain ⟨z5, h1, h⟩ := gbind_e h
  refine wl_X8_lettersHere_56 F E (r := z5) (fun q4 H locs ls e1 hM hS hl => ?_) gFuel ((gl q2 60 15).toInt32) ((gi q2 60 12) - (gi q2 60 13)) h1 hM hS (lv_sub hl [1, 0] rfl)
  replace e1 : z5 = q4 := e1
  rw [e1] at h
  refine lv_iload_n hx hb dX8_lettersHere_72 rfl (lv_at hl 0 rfl) ?_
  obtain rfl := Option.some.inj h
  exact g_iret hx hb hr hlocks hM hS dX8_lettersHere_73
def j_X8_lettersHere_34  (μ : gM) : Option (Int32 × gM) :=
  j_X8_lettersHere_35 (0 : Int32) μ
set_option maxHeartbeats 4000000 in
set_option maxRecDepth 100000 in
theorem wj_X8_lettersHere_34 {p : Program} {l : Launch} {e : Env} {s : State} {m : MethodId} {args : Array Value} {below : List Frame} {meth : Method} {c : Code} {D : va_G} {cy : Nat → ClassId} {ad : Nat → Nat} {base : Nat}  {μ : gM} {o : Int32 × gM} (h : j_X8_lettersHere_34  μ = some o) (F : gF p s m meth c cX8_lettersHere RX8 3 (some .int)) (E : gEnv l D cy ad base s)  {H : Heap} {locs : List Loc} {ls : Array Slot} (hM : gW gFull D cy ad base μ H) (hS : va_S (gA base) s.heap H locs) (hl : lv_has ls 3 [(0, .ref (ad 60))]) : W p l e ({ frames := 1, cells := 0, slots := 0, locals := 22 } : Room) s m args below meth c H locs 0 0 (MQ below (gQ (some (.int o.1)) gFull D cy ad base o.2) args s 0 0 (gA base)) (F0 m 34 ls [.ref (ad 60)]) := by
  obtain ⟨hx, hb, hml, hown, hlocks, hr⟩ := id F
  unfold j_X8_lettersHere_34 at h
  refine lv_iconst (v := (0 : Int32)) hx hb dX8_lettersHere_34 (by decide) ?_
  exact wj_X8_lettersHere_35 h F E hM hS hl
def f_X8_lettersHere (μ : gM) : Option (Int32 × gM) :=
  if ((gi μ 60 14) = (1 : Int32)) then if ((6 : Int32) < ((gi μ 60 12) - (gi μ 60 13))) then j_X8_lettersHere_34  μ else Option.bind (f_X8_isKeyword  μ) (fun q7 => if ((b2i q7) = 0) then j_X8_lettersHere_35 (1 : Int32) μ else j_X8_lettersHere_34  μ) else j_X8_lettersHere_34  μ
set_option maxHeartbeats 4000000 in
set_option maxRecDepth 100000 in
theorem c_X8_lettersHere {l : Launch} {D : va_G} {cy : Nat → ClassId} {ad : Nat → Nat} {base : Nat}  {μ : gM} {RES : Int32 × gM} (h : f_X8_lettersHere  μ = some RES) : Met l yX8_lettersHere [.code yX8_lettersHere cX8_lettersHere 3 (some .int)] ({ frames := 1, cells := 0, slots := 0, locals := 22 } : Room) (va_Pc [.ref (ad 60)] (gB l gFull D cy ad base μ)) (gQ (some (.int RES.1)) gFull D cy ad base RES.2) 0 0 (gA base) := by
  refine Met.ofW (cc := cX8_lettersHere) (maxL := 3) (ret := (some .int)) (by decide) rfl ?_
  intro p e s m args below meth c s₁ B hml0 hv
  obtain ⟨rfl, E, hM⟩ := hv
  have F : gF p s m meth c cX8_lettersHere RX8 3 (some .int) := gF_of B hml0
  obtain ⟨hx, hb, hml, hown, hlocks, hr⟩ := id F
  have hS : va_S (gA base) s.heap s.heap [] := va_S.rf
  have hl := lv_entry ([.ref (ad 60)]) (n := 3) (Nat.le_of_ble_eq_true rfl)
  rw [lg_entry_eq]
  generalize (lg_sl ([.ref (ad 60)]) ++ List.replicate (3 - (lg_sl ([.ref (ad 60)])).length) Slot.unset).toArray = ls at hl ⊢
  have hl : lv_has ls 3 [(0, .ref (ad 60))] := hl
  unfold f_X8_lettersHere at h
  refine lv_aload_n hx hb dX8_lettersHere_0 rfl (lv_at hl 0 rfl) ?_
  refine lv_aload_n hx hb dX8_lettersHere_1 rfl (lv_at hl 0 rfl) ?_
  refine gg_60_14 hx hb hown E hM hk_60 kw_1256 dX8_lettersHere_2 ?_
  refine lv_iconst (v := (1 : Int32)) hx hb dX8_lettersHere_5 (by decide) ?_
  refine lv_icmp_ne (tgt := 34) hx hb dX8_lettersHere_6 (by decide) (fun c1 => ?_) (fun c1 => ?_)
  · replace h := gif_f c1 h
    exact wj_X8_lettersHere_34 h F E hM hS hl
  · replace h := gif_t c1 h
    refine lv_aload_n hx hb dX8_lettersHere_9 rfl (lv_at hl 0 rfl) ?_
    refine gg_60_12 hx hb hown E hM hk_60 kw_1254 dX8_lettersHere_10 ?_
    refine lv_aload_n hx hb dX8_lettersHere_13 rfl (lv_at hl 0 rfl) ?_
    refine gg_60_13 hx hb hown E hM hk_60 kw_1255 dX8_lettersHere_14 ?_
    refine lv_isub hx hb dX8_lettersHere_17 ?_
    refine lv_bipush (v := (6 : Int32)) hx hb dX8_lettersHere_18 (by decide) ?_
    refine lv_icmp_gt (tgt := 34) hx hb dX8_lettersHere_20 (by decide) (fun c6 => ?_) (fun c6 => ?_)
    · replace h := gif_t c6 h
      exact wj_X8_lettersHere_34 h F E hM hS hl
    · replace h := gif_f c6 h
      refine lv_aload_n hx hb dX8_lettersHere_23 rfl (lv_at hl 0 rfl) ?_
      obtain ⟨q7, hq7, h⟩ := gbind_e h
      refine g_callV (As := []) (rest := [.ref (ad 60)]) hx hb (hml.trans hl.1.symm) hown E hM hS hy_X8_isKeyword kw_1425 (c_X8_isKeyword hq7) hk_60 dd_60 rfl rfl rfl (Nat.le_of_ble_eq_true rfl) ⟨Nat.le_of_ble_eq_true rfl, Nat.le_of_ble_eq_true rfl⟩ ⟨Nat.le_of_ble_eq_true rfl, Nat.le_of_ble_eq_true rfl⟩ dX8_lettersHere_24 (fun H locs hM hS => ?_)
      refine lv_if_ne (tgt := 34) hx hb dX8_lettersHere_27 (by decide) (fun c8 => ?_) (fun c8 => ?_)
      · replace h := gif_f c8 h
        exact wj_X8_lettersHere_34 h F E hM hS hl
      · replace h := gif_t c8 h
        refine lv_iconst (v := (1 : Int32)) hx hb dX8_lettersHere_30 (by decide) ?_
        refine lv_goto (tgt := 35) hx hb dX8_lettersHere_31 (by decide) ?_
        exact wj_X8_lettersHere_35 h F E hM hS hl
def b_X8_find_67_15 (x1 : Int32) (x2 : Int32) (x3 : Int32) (x4 : Int32) (μ : gM) : Option ((Int32) ⊕ ((Unit) ⊕ (Int32))) :=
  gchk (gIn ((0 : Int32) + x1) 137) (if ((gi μ 67 ((0 : Int32) + x1).toNatClampNeg) ≤ x4) then some (.inr (.inl ())) else gchk (gIn (x3 + x4) 137) (if ((gi μ 67 (x3 + x4).toNatClampNeg) = x2) then some (.inr (.inr x4)) else some (.inl (x4 + (1 : Int32)))))
set_option maxHeartbeats 4000000 in
set_option maxRecDepth 100000 in
theorem wb_X8_find_67_15 {p : Program} {l : Launch} {e : Env} {s : State} {m : MethodId} {args : Array Value} {below : List Frame} {meth : Method} {c : Code} {D : va_G} {cy : Nat → ClassId} {ad : Nat → Nat} {base : Nat} {x1 : Int32} {x2 : Int32} {x3 : Int32} {x4 : Int32} {μ : gM} {o : (Int32) ⊕ ((Unit) ⊕ (Int32))} {RES : Int32} (h : b_X8_find_67_15 x1 x2 x3 x4 μ = some o) (F : gF p s m meth c cX8_find RX8 5 (some .int)) (E : gEnv l D cy ad base s) (kc : ∀ (t : Int32) {H : Heap} {locs : List Loc} {ls : Array Slot}, o = .inl t → gW gFull D cy ad base μ H → va_S (gA base) s.heap H locs → lv_has ls 5 [(0, .ref (ad 67)), (1, .int x1), (2, .int x2), (3, .int x3), (4, .int t)] → W p l e ({ frames := 0, cells := 0, slots := 0, locals := 0 } : Room) s m args below meth c H locs 0 0 (MQ below (gQ (some (.int RES)) gFull D cy ad base μ) args s 0 0 (gA base)) (F0 m 15 ls [])) (kx : ∀ (t : Unit) {H : Heap} {locs : List Loc} {ls : Array Slot}, o = .inr (.inl t) → gW gFull D cy ad base μ H → va_S (gA base) s.heap H locs → lv_has ls 5 [] → W p l e ({ frames := 0, cells := 0, slots := 0, locals := 0 } : Room) s m args below meth c H locs 0 0 (MQ below (gQ (some (.int RES)) gFull D cy ad base μ) args s 0 0 (gA base)) (F0 m 44 ls [])) (kr : ∀ x : Int32, o = .inr (.inr x) → x = RES) {H : Heap} {locs : List Loc} {ls : Array Slot} (hM : gW gFull D cy ad base μ H) (hS : va_S (gA base) s.heap H locs) (hl : lv_has ls 5 [(0, .ref (ad 67)), (1, .int x1), (2, .int x2), (3, .int x3), (4, .int x4)]) : W p l e ({ frames := 0, cells := 0, slots := 0, locals := 0 } : Room) s m args below meth c H locs 0 0 (MQ below (gQ (some (.int RES)) gFull D cy ad base μ) args s 0 0 (gA base)) (F0 m 15 ls []) := by
  obtain ⟨hx, hb, hml, hown, hlocks, hr⟩ := id F
  unfold b_X8_find_67_15 at h
  refine lv_iload hx hb dX8_find_15 (lv_at hl 4 rfl) ?_
  refine lv_aload_n hx hb dX8_find_17 rfl (lv_at hl 0 rfl) ?_
  refine lv_iconst (v := (0 : Int32)) hx hb dX8_find_18 (by decide) ?_
  refine lv_iload_n hx hb dX8_find_19 rfl (lv_at hl 1 rfl) ?_
  refine lv_iadd hx hb dX8_find_20 ?_
  obtain ⟨c2, h⟩ := gchk_e h
  refine g_iald hx hb E hM hk_67 dd_67 c2 dX8_find_21 ?_
  refine lv_icmp_ge (tgt := 44) hx hb dX8_find_22 (by decide) (fun c3 => ?_) (fun c3 => ?_)
  · replace h := gif_t c3 h
    exact kx _ (Option.some.inj h).symm hM hS (lv_sub hl [] rfl)
  · replace h := gif_f c3 h
    refine lv_aload_n hx hb dX8_find_25 rfl (lv_at hl 0 rfl) ?_
    refine lv_iload_n hx hb dX8_find_26 rfl (lv_at hl 3 rfl) ?_
    refine lv_iload hx hb dX8_find_27 (lv_at hl 4 rfl) ?_
    refine lv_iadd hx hb dX8_find_29 ?_
    obtain ⟨c4, h⟩ := gchk_e h
    refine g_iald hx hb E hM hk_67 dd_67 c4 dX8_find_30 ?_
    refine lv_iload_n hx hb dX8_find_31 rfl (lv_at hl 2 rfl) ?_
    refine lv_icmp_ne (tgt := 38) hx hb dX8_find_32 (by decide) (fun c5 => ?_) (fun c5 => ?_)
    · replace h := gif_f c5 h
      refine lv_iinc (v := (x4 + (1 : Int32))) (lv' := [(4, .int (x4 + (1 : Int32))), (0, .ref (ad 67)), (1, .int x1), (2, .int x2), (3, .int x3)]) hx hb dX8_find_38 hl (k := 4) rfl rfl (by decide) rfl (fun ls hl => ?_)
      refine lv_goto (tgt := 15) hx hb dX8_find_41 (by decide) ?_
      exact kc _ (Option.some.inj h).symm hM hS (lv_sub hl [1, 2, 3, 4, 0] rfl)
    · replace h := gif_t c5 h
      refine lv_iload hx hb dX8_find_35 (lv_at hl 4 rfl) ?_
      obtain rfl := kr _ (Option.some.inj h).symm
      exact g_iret hx hb hr hlocks hM hS dX8_find_37
set_option maxHeartbeats 4000000 in
theorem wl_X8_find_67_15 {p : Program} {l : Launch} {e : Env} {s : State} {m : MethodId} {args : Array Value} {below : List Frame} {meth : Method} {c : Code} {D : va_G} {cy : Nat → ClassId} {ad : Nat → Nat} {base : Nat} {x1 : Int32} {x2 : Int32} {x3 : Int32} {μ : gM} {r : (Unit) ⊕ (Int32)} {RES : Int32} (F : gF p s m meth c cX8_find RX8 5 (some .int)) (E : gEnv l D cy ad base s) (kx : ∀ (t : Unit) {H : Heap} {locs : List Loc} {ls : Array Slot}, r = .inl t → gW gFull D cy ad base μ H → va_S (gA base) s.heap H locs → lv_has ls 5 [] → W p l e ({ frames := 0, cells := 0, slots := 0, locals := 0 } : Room) s m args below meth c H locs 0 0 (MQ below (gQ (some (.int RES)) gFull D cy ad base μ) args s 0 0 (gA base)) (F0 m 44 ls [])) (kr : ∀ x : Int32, r = .inr x → x = RES) : ∀ (n : Nat) (x4 : Int32), gloop (fun t => b_X8_find_67_15 x1 x2 x3 t μ) n x4 = some r → ∀ {H : Heap} {locs : List Loc} {ls : Array Slot}, gW gFull D cy ad base μ H → va_S (gA base) s.heap H locs → lv_has ls 5 [(0, .ref (ad 67)), (1, .int x1), (2, .int x2), (3, .int x3), (4, .int x4)] → W p l e ({ frames := 0, cells := 0, slots := 0, locals := 0 } : Room) s m args below meth c H locs 0 0 (MQ below (gQ (some (.int RES)) gFull D cy ad base μ) args s 0 0 (gA base)) (F0 m 15 ls []) := by
  intro n
  induction n with
  | zero =>
    intro x4 h
    exact (gloop_0 h).elim
  | succ n ih =>
    intro x4 h H locs ls hM hS hl
    obtain ⟨o, h0, hc, hq⟩ := gloop_s h
    have h1 : b_X8_find_67_15 x1 x2 x3 x4 μ = some o := h0
    exact wb_X8_find_67_15 h1 F E (fun t H locs ls ho hM hS hl => ih t (hc t ho) hM hS hl) (fun t H locs ls ho hM hS hl => kx t (hq _ ho).symm hM hS hl) (fun x ho => kr x (hq _ ho).symm) hM hS hl
def j_X8_find_67_11 (x1 : Int32) (x2 : Int32) (y0 : Int32) (μ : gM) : Option (Int32) :=
  Option.bind (gloop (fun t => b_X8_find_67_15 x1 x2 y0 t μ) gFuel (0 : Int32)) (fun q6 => Sum.elim (fun t7 => some (-1 : Int32)) (fun x => some x) q6)
set_option maxHeartbeats 4000000 in
set_option maxRecDepth 100000 in
theorem wj_X8_find_67_11 {p : Program} {l : Launch} {e : Env} {s : State} {m : MethodId} {args : Array Value} {below : List Frame} {meth : Method} {c : Code} {D : va_G} {cy : Nat → ClassId} {ad : Nat → Nat} {base : Nat} {x1 : Int32} {x2 : Int32} {y0 : Int32} {μ : gM} {o : Int32} (h : j_X8_find_67_11 x1 x2 y0 μ = some o) (F : gF p s m meth c cX8_find RX8 5 (some .int)) (E : gEnv l D cy ad base s)  {H : Heap} {locs : List Loc} {ls : Array Slot} (hM : gW gFull D cy ad base μ H) (hS : va_S (gA base) s.heap H locs) (hl : lv_has ls 5 [(0, .ref (ad 67)), (1, .int x1), (2, .int x2)]) : W p l e ({ frames := 0, cells := 0, slots := 0, locals := 0 } : Room) s m args below meth c H locs 0 0 (MQ below (gQ (some (.int o)) gFull D cy ad base μ) args s 0 0 (gA base)) (F0 m 11 ls [.int y0]) := by
  obtain ⟨hx, hb, hml, hown, hlocks, hr⟩ := id F
  unfold j_X8_find_67_11 at h
  refine lv_istore_n (lv' := [(3, .int y0), (0, .ref (ad 67)), (1, .int x1), (2, .int x2)]) hx hb dX8_find_11 rfl hl (by decide) rfl (fun ls hl => ?_)
  refine lv_iconst (v := (0 : Int32)) hx hb dX8_find_12 (by decide) ?_
  refine lv_istore (lv' := [(4, .int (0 : Int32)), (3, .int y0), (0, .ref (ad 67)), (1, .int x1), (2, .int x2)]) hx hb dX8_find_13 hl (by decide) rfl (fun ls hl => ?_)
  obtain ⟨q6, h1, h⟩ := gbind_e h
  refine wl_X8_find_67_15 F E (r := q6) (fun t7 H locs ls e1 hM hS hl => ?_) (fun x ex => ?_) gFuel (0 : Int32) h1 hM hS (lv_sub hl [2, 3, 4, 1, 0] rfl)
  · replace h := gsum_l e1 h
    refine lv_iconst (v := (-1 : Int32)) hx hb dX8_find_44 (by decide) ?_
    obtain rfl := Option.some.inj h
    exact g_iret hx hb hr hlocks hM hS dX8_find_45
  · exact Option.some.inj (gsum_r ex h)
def f_X8_find_67 (p2 : Int32) (p3 : Int32) (μ : gM) : Option (Int32) :=
  if (p2 = 0) then j_X8_find_67_11 p2 p3 (118 : Int32) μ else j_X8_find_67_11 p2 p3 (121 : Int32) μ
set_option maxHeartbeats 4000000 in
set_option maxRecDepth 100000 in
theorem c_X8_find_67 {l : Launch} {D : va_G} {cy : Nat → ClassId} {ad : Nat → Nat} {base : Nat} {p2 : Int32} {p3 : Int32} {μ : gM} {RES : Int32} (h : f_X8_find_67 p2 p3 μ = some RES) : Met l yX8_find [.code yX8_find cX8_find 5 (some .int)] ({ frames := 0, cells := 0, slots := 0, locals := 0 } : Room) (va_Pc [.ref (ad 67), .int p2, .int p3] (gB l gFull D cy ad base μ)) (gQ (some (.int RES)) gFull D cy ad base μ) 0 0 (gA base) := by
  refine Met.ofW (cc := cX8_find) (maxL := 5) (ret := (some .int)) (by decide) rfl ?_
  intro p e s m args below meth c s₁ B hml0 hv
  obtain ⟨rfl, E, hM⟩ := hv
  have F : gF p s m meth c cX8_find RX8 5 (some .int) := gF_of B hml0
  obtain ⟨hx, hb, hml, hown, hlocks, hr⟩ := id F
  have hS : va_S (gA base) s.heap s.heap [] := va_S.rf
  have hl := lv_entry ([.ref (ad 67), .int p2, .int p3]) (n := 5) (Nat.le_of_ble_eq_true rfl)
  rw [lg_entry_eq]
  generalize (lg_sl ([.ref (ad 67), .int p2, .int p3]) ++ List.replicate (5 - (lg_sl ([.ref (ad 67), .int p2, .int p3])).length) Slot.unset).toArray = ls at hl ⊢
  have hl : lv_has ls 5 [(0, .ref (ad 67)), (1, .int p2), (2, .int p3)] := hl
  unfold f_X8_find_67 at h
  refine lv_iload_n hx hb dX8_find_0 rfl (lv_at hl 1 rfl) ?_
  refine lv_if_ne (tgt := 9) hx hb dX8_find_1 (by decide) (fun c1 => ?_) (fun c1 => ?_)
  · replace h := gif_f c1 h
    refine lv_bipush (v := (121 : Int32)) hx hb dX8_find_9 (by decide) ?_
    exact wj_X8_find_67_11 h F E hM hS hl
  · replace h := gif_t c1 h
    refine lv_bipush (v := (118 : Int32)) hx hb dX8_find_4 (by decide) ?_
    refine lv_goto (tgt := 11) hx hb dX8_find_6 (by decide) ?_
    exact wj_X8_find_67_11 h F E hM hS hl
def j_X8_readNewName_15 (y0 : Int32) (μ : gM) : Option (Int32 × gM) :=
  Option.bind (f_X8_find_67 (0 : Int32) y0 μ) (fun q2 => if (0 ≤ q2) then Option.bind (f_X8_check (0 : Int32) (-14 : Int32) μ) (fun q4 => Option.bind (f_X8_advanceIfGood  q4) (fun q5 => some (y0, q5))) else Option.bind (f_X8_find_67 (1 : Int32) y0 μ) (fun q6 => if (0 ≤ q6) then Option.bind (f_X8_check (0 : Int32) (-14 : Int32) μ) (fun q8 => Option.bind (f_X8_advanceIfGood  q8) (fun q9 => some (y0, q9))) else Option.bind (f_X8_check (1 : Int32) (-14 : Int32) μ) (fun q10 => Option.bind (f_X8_advanceIfGood  q10) (fun q11 => some (y0, q11)))))
set_option maxHeartbeats 4000000 in
set_option maxRecDepth 100000 in
theorem wj_X8_readNewName_15 {p : Program} {l : Launch} {e : Env} {s : State} {m : MethodId} {args : Array Value} {below : List Frame} {meth : Method} {c : Code} {D : va_G} {cy : Nat → ClassId} {ad : Nat → Nat} {base : Nat} {y0 : Int32} {μ : gM} {o : Int32 × gM} (h : j_X8_readNewName_15 y0 μ = some o) (F : gF p s m meth c cX8_readNewName RX8 2 (some .int)) (E : gEnv l D cy ad base s)  {H : Heap} {locs : List Loc} {ls : Array Slot} (hM : gW gFull D cy ad base μ H) (hS : va_S (gA base) s.heap H locs) (hl : lv_has ls 2 [(0, .ref (ad 60))]) : W p l e ({ frames := 3, cells := 0, slots := 0, locals := 63 } : Room) s m args below meth c H locs 0 0 (MQ below (gQ (some (.int o.1)) gFull D cy ad base o.2) args s 0 0 (gA base)) (F0 m 15 ls [.int y0]) := by
  obtain ⟨hx, hb, hml, hown, hlocks, hr⟩ := id F
  unfold j_X8_readNewName_15 at h
  refine lv_istore_n (lv' := [(1, .int y0), (0, .ref (ad 60))]) hx hb dX8_readNewName_15 rfl hl (by decide) rfl (fun ls hl => ?_)
  refine lv_aload_n hx hb dX8_readNewName_16 rfl (lv_at hl 1 rfl) ?_
  refine lv_aload_n hx hb dX8_readNewName_17 rfl (lv_at hl 1 rfl) ?_
  refine gg_60_8 hx hb hown E hM hk_60 kw_1250 dX8_readNewName_18 ?_
  refine lv_iconst (v := (0 : Int32)) hx hb dX8_readNewName_21 (by decide) ?_
  refine lv_iload_n hx hb dX8_readNewName_22 rfl (lv_at hl 0 rfl) ?_
  obtain ⟨q2, hq2, h⟩ := gbind_e h
  refine g_callS (As := [.ref (ad 67), .int (0 : Int32), .int y0]) (rest := [.ref (ad 60)]) hx hb (hml.trans hl.1.symm) hown E hM hS hy_X8_find kw_1435 (c_X8_find_67 hq2) rfl rfl (Nat.le_of_ble_eq_true rfl) ⟨Nat.le_of_ble_eq_true rfl, Nat.le_of_ble_eq_true rfl⟩ ⟨Nat.le_of_ble_eq_true rfl, Nat.le_of_ble_eq_true rfl⟩ dX8_readNewName_23 (fun H locs hM hS => ?_)
  refine lv_if_ge (tgt := 45) hx hb dX8_readNewName_26 (by decide) (fun c3 => ?_) (fun c3 => ?_)
  · replace h := gif_t c3 h
    refine lv_iconst (v := (0 : Int32)) hx hb dX8_readNewName_45 (by decide) ?_
    refine lv_bipush (v := (-14 : Int32)) hx hb dX8_readNewName_46 (by decide) ?_
    obtain ⟨q4, hq4, h⟩ := gbind_e h
    refine g_callV (As := [.int (0 : Int32), .int (-14 : Int32)]) (rest := []) hx hb (hml.trans hl.1.symm) hown E hM hS hy_X8_check kw_1409 (c_X8_check hq4) hk_60 dd_60 rfl rfl rfl (Nat.le_of_ble_eq_true rfl) ⟨Nat.le_of_ble_eq_true rfl, Nat.le_of_ble_eq_true rfl⟩ ⟨Nat.le_of_ble_eq_true rfl, Nat.le_of_ble_eq_true rfl⟩ dX8_readNewName_48 (fun H locs hM hS => ?_)
    refine lv_aload_n hx hb dX8_readNewName_51 rfl (lv_at hl 1 rfl) ?_
    obtain ⟨q5, hq5, h⟩ := gbind_e h
    refine g_callV (As := []) (rest := []) hx hb (hml.trans hl.1.symm) hown E hM hS hy_X8_advanceIfGood kw_1413 (c_X8_advanceIfGood hq5) hk_60 dd_60 rfl rfl rfl (Nat.le_of_ble_eq_true rfl) ⟨Nat.le_of_ble_eq_true rfl, Nat.le_of_ble_eq_true rfl⟩ ⟨Nat.le_of_ble_eq_true rfl, Nat.le_of_ble_eq_true rfl⟩ dX8_readNewName_52 (fun H locs hM hS => ?_)
    refine lv_iload_n hx hb dX8_readNewName_55 rfl (lv_at hl 0 rfl) ?_
    obtain rfl := Option.some.inj h
    exact g_iret hx hb hr hlocks hM hS dX8_readNewName_56
  · replace h := gif_f c3 h
    refine lv_aload_n hx hb dX8_readNewName_29 rfl (lv_at hl 1 rfl) ?_
    refine gg_60_8 hx hb hown E hM hk_60 kw_1250 dX8_readNewName_30 ?_
    refine lv_iconst (v := (1 : Int32)) hx hb dX8_readNewName_33 (by decide) ?_
    refine lv_iload_n hx hb dX8_readNewName_34 rfl (lv_at hl 0 rfl) ?_
    obtain ⟨q6, hq6, h⟩ := gbind_e h
    refine g_callS (As := [.ref (ad 67), .int (1 : Int32), .int y0]) (rest := [.ref (ad 60)]) hx hb (hml.trans hl.1.symm) hown E hM hS hy_X8_find kw_1435 (c_X8_find_67 hq6) rfl rfl (Nat.le_of_ble_eq_true rfl) ⟨Nat.le_of_ble_eq_true rfl, Nat.le_of_ble_eq_true rfl⟩ ⟨Nat.le_of_ble_eq_true rfl, Nat.le_of_ble_eq_true rfl⟩ dX8_readNewName_35 (fun H locs hM hS => ?_)
    refine lv_if_ge (tgt := 45) hx hb dX8_readNewName_38 (by decide) (fun c7 => ?_) (fun c7 => ?_)
    · replace h := gif_t c7 h
      refine lv_iconst (v := (0 : Int32)) hx hb dX8_readNewName_45 (by decide) ?_
      refine lv_bipush (v := (-14 : Int32)) hx hb dX8_readNewName_46 (by decide) ?_
      obtain ⟨q8, hq8, h⟩ := gbind_e h
      refine g_callV (As := [.int (0 : Int32), .int (-14 : Int32)]) (rest := []) hx hb (hml.trans hl.1.symm) hown E hM hS hy_X8_check kw_1409 (c_X8_check hq8) hk_60 dd_60 rfl rfl rfl (Nat.le_of_ble_eq_true rfl) ⟨Nat.le_of_ble_eq_true rfl, Nat.le_of_ble_eq_true rfl⟩ ⟨Nat.le_of_ble_eq_true rfl, Nat.le_of_ble_eq_true rfl⟩ dX8_readNewName_48 (fun H locs hM hS => ?_)
      refine lv_aload_n hx hb dX8_readNewName_51 rfl (lv_at hl 1 rfl) ?_
      obtain ⟨q9, hq9, h⟩ := gbind_e h
      refine g_callV (As := []) (rest := []) hx hb (hml.trans hl.1.symm) hown E hM hS hy_X8_advanceIfGood kw_1413 (c_X8_advanceIfGood hq9) hk_60 dd_60 rfl rfl rfl (Nat.le_of_ble_eq_true rfl) ⟨Nat.le_of_ble_eq_true rfl, Nat.le_of_ble_eq_true rfl⟩ ⟨Nat.le_of_ble_eq_true rfl, Nat.le_of_ble_eq_true rfl⟩ dX8_readNewName_52 (fun H locs hM hS => ?_)
      refine lv_iload_n hx hb dX8_readNewName_55 rfl (lv_at hl 0 rfl) ?_
      obtain rfl := Option.some.inj h
      exact g_iret hx hb hr hlocks hM hS dX8_readNewName_56
    · replace h := gif_f c7 h
      refine lv_iconst (v := (1 : Int32)) hx hb dX8_readNewName_41 (by decide) ?_
      refine lv_goto (tgt := 46) hx hb dX8_readNewName_42 (by decide) ?_
      refine lv_bipush (v := (-14 : Int32)) hx hb dX8_readNewName_46 (by decide) ?_
      obtain ⟨q10, hq10, h⟩ := gbind_e h
      refine g_callV (As := [.int (1 : Int32), .int (-14 : Int32)]) (rest := []) hx hb (hml.trans hl.1.symm) hown E hM hS hy_X8_check kw_1409 (c_X8_check hq10) hk_60 dd_60 rfl rfl rfl (Nat.le_of_ble_eq_true rfl) ⟨Nat.le_of_ble_eq_true rfl, Nat.le_of_ble_eq_true rfl⟩ ⟨Nat.le_of_ble_eq_true rfl, Nat.le_of_ble_eq_true rfl⟩ dX8_readNewName_48 (fun H locs hM hS => ?_)
      refine lv_aload_n hx hb dX8_readNewName_51 rfl (lv_at hl 1 rfl) ?_
      obtain ⟨q11, hq11, h⟩ := gbind_e h
      refine g_callV (As := []) (rest := []) hx hb (hml.trans hl.1.symm) hown E hM hS hy_X8_advanceIfGood kw_1413 (c_X8_advanceIfGood hq11) hk_60 dd_60 rfl rfl rfl (Nat.le_of_ble_eq_true rfl) ⟨Nat.le_of_ble_eq_true rfl, Nat.le_of_ble_eq_true rfl⟩ ⟨Nat.le_of_ble_eq_true rfl, Nat.le_of_ble_eq_true rfl⟩ dX8_readNewName_52 (fun H locs hM hS => ?_)
      refine lv_iload_n hx hb dX8_readNewName_55 rfl (lv_at hl 0 rfl) ?_
      obtain rfl := Option.some.inj h
      exact g_iret hx hb hr hlocks hM hS dX8_readNewName_56
def f_X8_readNewName (μ : gM) : Option (Int32 × gM) :=
  if ((gi μ 60 17) = 0) then Option.bind (f_X8_lettersHere  μ) (fun q12 => j_X8_readNewName_15 q12.1 q12.2) else j_X8_readNewName_15 (0 : Int32) μ
set_option maxHeartbeats 4000000 in
set_option maxRecDepth 100000 in
theorem c_X8_readNewName {l : Launch} {D : va_G} {cy : Nat → ClassId} {ad : Nat → Nat} {base : Nat}  {μ : gM} {RES : Int32 × gM} (h : f_X8_readNewName  μ = some RES) : Met l yX8_readNewName [.code yX8_readNewName cX8_readNewName 2 (some .int)] ({ frames := 3, cells := 0, slots := 0, locals := 63 } : Room) (va_Pc [.ref (ad 60)] (gB l gFull D cy ad base μ)) (gQ (some (.int RES.1)) gFull D cy ad base RES.2) 0 0 (gA base) := by
  refine Met.ofW (cc := cX8_readNewName) (maxL := 2) (ret := (some .int)) (by decide) rfl ?_
  intro p e s m args below meth c s₁ B hml0 hv
  obtain ⟨rfl, E, hM⟩ := hv
  have F : gF p s m meth c cX8_readNewName RX8 2 (some .int) := gF_of B hml0
  obtain ⟨hx, hb, hml, hown, hlocks, hr⟩ := id F
  have hS : va_S (gA base) s.heap s.heap [] := va_S.rf
  have hl := lv_entry ([.ref (ad 60)]) (n := 2) (Nat.le_of_ble_eq_true rfl)
  rw [lg_entry_eq]
  generalize (lg_sl ([.ref (ad 60)]) ++ List.replicate (2 - (lg_sl ([.ref (ad 60)])).length) Slot.unset).toArray = ls at hl ⊢
  have hl : lv_has ls 2 [(0, .ref (ad 60))] := hl
  unfold f_X8_readNewName at h
  refine lv_aload_n hx hb dX8_readNewName_0 rfl (lv_at hl 0 rfl) ?_
  refine gg_60_17 hx hb hown E hM hk_60 kw_1259 dX8_readNewName_1 ?_
  refine lv_if_ne (tgt := 14) hx hb dX8_readNewName_4 (by decide) (fun c1 => ?_) (fun c1 => ?_)
  · replace h := gif_f c1 h
    refine lv_iconst (v := (0 : Int32)) hx hb dX8_readNewName_14 (by decide) ?_
    exact wj_X8_readNewName_15 h F E hM hS hl
  · replace h := gif_t c1 h
    refine lv_aload_n hx hb dX8_readNewName_7 rfl (lv_at hl 0 rfl) ?_
    obtain ⟨q12, hq12, h⟩ := gbind_e h
    refine g_callV (As := []) (rest := []) hx hb (hml.trans hl.1.symm) hown E hM hS hy_X8_lettersHere kw_1421 (c_X8_lettersHere hq12) hk_60 dd_60 rfl rfl rfl (Nat.le_of_ble_eq_true rfl) ⟨Nat.le_of_ble_eq_true rfl, Nat.le_of_ble_eq_true rfl⟩ ⟨Nat.le_of_ble_eq_true rfl, Nat.le_of_ble_eq_true rfl⟩ dX8_readNewName_8 (fun H locs hM hS => ?_)
    refine lv_goto (tgt := 15) hx hb dX8_readNewName_11 (by decide) ?_
    exact wj_X8_readNewName_15 h F E hM hS hl
def j_X8_oldHere_23 (y0 : Int32) (μ : gM) : Option (Int32 × gM) :=
  if (y0 < 0) then Option.bind (f_X8_check (0 : Int32) (-13 : Int32) μ) (fun q3 => some (y0, q3)) else Option.bind (f_X8_check (1 : Int32) (-13 : Int32) μ) (fun q4 => some (y0, q4))
set_option maxHeartbeats 4000000 in
set_option maxRecDepth 100000 in
theorem wj_X8_oldHere_23 {p : Program} {l : Launch} {e : Env} {s : State} {m : MethodId} {args : Array Value} {below : List Frame} {meth : Method} {c : Code} {D : va_G} {cy : Nat → ClassId} {ad : Nat → Nat} {base : Nat} {y0 : Int32} {μ : gM} {o : Int32 × gM} (h : j_X8_oldHere_23 y0 μ = some o) (F : gF p s m meth c cX8_oldHere RX8 3 (some .int)) (E : gEnv l D cy ad base s)  {H : Heap} {locs : List Loc} {ls : Array Slot} (hM : gW gFull D cy ad base μ H) (hS : va_S (gA base) s.heap H locs) (hl : lv_has ls 3 [(0, .ref (ad 60))]) : W p l e ({ frames := 2, cells := 0, slots := 0, locals := 44 } : Room) s m args below meth c H locs 0 0 (MQ below (gQ (some (.int o.1)) gFull D cy ad base o.2) args s 0 0 (gA base)) (F0 m 23 ls [.int y0]) := by
  obtain ⟨hx, hb, hml, hown, hlocks, hr⟩ := id F
  unfold j_X8_oldHere_23 at h
  refine lv_istore_n (lv' := [(2, .int y0), (0, .ref (ad 60))]) hx hb dX8_oldHere_23 rfl hl (by decide) rfl (fun ls hl => ?_)
  refine lv_aload_n hx hb dX8_oldHere_24 rfl (lv_at hl 1 rfl) ?_
  refine lv_iload_n hx hb dX8_oldHere_25 rfl (lv_at hl 0 rfl) ?_
  refine lv_if_lt (tgt := 33) hx hb dX8_oldHere_26 (by decide) (fun c2 => ?_) (fun c2 => ?_)
  · replace h := gif_t c2 h
    refine lv_iconst (v := (0 : Int32)) hx hb dX8_oldHere_33 (by decide) ?_
    refine lv_bipush (v := (-13 : Int32)) hx hb dX8_oldHere_34 (by decide) ?_
    obtain ⟨q3, hq3, h⟩ := gbind_e h
    refine g_callV (As := [.int (0 : Int32), .int (-13 : Int32)]) (rest := []) hx hb (hml.trans hl.1.symm) hown E hM hS hy_X8_check kw_1409 (c_X8_check hq3) hk_60 dd_60 rfl rfl rfl (Nat.le_of_ble_eq_true rfl) ⟨Nat.le_of_ble_eq_true rfl, Nat.le_of_ble_eq_true rfl⟩ ⟨Nat.le_of_ble_eq_true rfl, Nat.le_of_ble_eq_true rfl⟩ dX8_oldHere_36 (fun H locs hM hS => ?_)
    refine lv_iload_n hx hb dX8_oldHere_39 rfl (lv_at hl 0 rfl) ?_
    obtain rfl := Option.some.inj h
    exact g_iret hx hb hr hlocks hM hS dX8_oldHere_40
  · replace h := gif_f c2 h
    refine lv_iconst (v := (1 : Int32)) hx hb dX8_oldHere_29 (by decide) ?_
    refine lv_goto (tgt := 34) hx hb dX8_oldHere_30 (by decide) ?_
    refine lv_bipush (v := (-13 : Int32)) hx hb dX8_oldHere_34 (by decide) ?_
    obtain ⟨q4, hq4, h⟩ := gbind_e h
    refine g_callV (As := [.int (1 : Int32), .int (-13 : Int32)]) (rest := []) hx hb (hml.trans hl.1.symm) hown E hM hS hy_X8_check kw_1409 (c_X8_check hq4) hk_60 dd_60 rfl rfl rfl (Nat.le_of_ble_eq_true rfl) ⟨Nat.le_of_ble_eq_true rfl, Nat.le_of_ble_eq_true rfl⟩ ⟨Nat.le_of_ble_eq_true rfl, Nat.le_of_ble_eq_true rfl⟩ dX8_oldHere_36 (fun H locs hM hS => ?_)
    refine lv_iload_n hx hb dX8_oldHere_39 rfl (lv_at hl 0 rfl) ?_
    obtain rfl := Option.some.inj h
    exact g_iret hx hb hr hlocks hM hS dX8_oldHere_40
def f_X8_oldHere (p1 : Int32) (μ : gM) : Option (Int32 × gM) :=
  if ((gi μ 60 17) = 0) then Option.bind (f_X8_lettersHere  μ) (fun q5 => Option.bind (f_X8_find_67 p1 q5.1 q5.2) (fun q6 => j_X8_oldHere_23 q6 q5.2)) else j_X8_oldHere_23 (-1 : Int32) μ
set_option maxHeartbeats 4000000 in
set_option maxRecDepth 100000 in
theorem c_X8_oldHere {l : Launch} {D : va_G} {cy : Nat → ClassId} {ad : Nat → Nat} {base : Nat} {p1 : Int32} {μ : gM} {RES : Int32 × gM} (h : f_X8_oldHere p1 μ = some RES) : Met l yX8_oldHere [.code yX8_oldHere cX8_oldHere 3 (some .int)] ({ frames := 2, cells := 0, slots := 0, locals := 44 } : Room) (va_Pc [.ref (ad 60), .int p1] (gB l gFull D cy ad base μ)) (gQ (some (.int RES.1)) gFull D cy ad base RES.2) 0 0 (gA base) := by
  refine Met.ofW (cc := cX8_oldHere) (maxL := 3) (ret := (some .int)) (by decide) rfl ?_
  intro p e s m args below meth c s₁ B hml0 hv
  obtain ⟨rfl, E, hM⟩ := hv
  have F : gF p s m meth c cX8_oldHere RX8 3 (some .int) := gF_of B hml0
  obtain ⟨hx, hb, hml, hown, hlocks, hr⟩ := id F
  have hS : va_S (gA base) s.heap s.heap [] := va_S.rf
  have hl := lv_entry ([.ref (ad 60), .int p1]) (n := 3) (Nat.le_of_ble_eq_true rfl)
  rw [lg_entry_eq]
  generalize (lg_sl ([.ref (ad 60), .int p1]) ++ List.replicate (3 - (lg_sl ([.ref (ad 60), .int p1])).length) Slot.unset).toArray = ls at hl ⊢
  have hl : lv_has ls 3 [(0, .ref (ad 60)), (1, .int p1)] := hl
  unfold f_X8_oldHere at h
  refine lv_aload_n hx hb dX8_oldHere_0 rfl (lv_at hl 0 rfl) ?_
  refine gg_60_17 hx hb hown E hM hk_60 kw_1259 dX8_oldHere_1 ?_
  refine lv_if_ne (tgt := 22) hx hb dX8_oldHere_4 (by decide) (fun c1 => ?_) (fun c1 => ?_)
  · replace h := gif_f c1 h
    refine lv_iconst (v := (-1 : Int32)) hx hb dX8_oldHere_22 (by decide) ?_
    exact wj_X8_oldHere_23 h F E hM hS (lv_sub hl [0] rfl)
  · replace h := gif_t c1 h
    refine lv_aload_n hx hb dX8_oldHere_7 rfl (lv_at hl 0 rfl) ?_
    refine gg_60_8 hx hb hown E hM hk_60 kw_1250 dX8_oldHere_8 ?_
    refine lv_iload_n hx hb dX8_oldHere_11 rfl (lv_at hl 1 rfl) ?_
    refine lv_aload_n hx hb dX8_oldHere_12 rfl (lv_at hl 0 rfl) ?_
    obtain ⟨q5, hq5, h⟩ := gbind_e h
    refine g_callV (As := []) (rest := [.int p1, .ref (ad 67)]) hx hb (hml.trans hl.1.symm) hown E hM hS hy_X8_lettersHere kw_1421 (c_X8_lettersHere hq5) hk_60 dd_60 rfl rfl rfl (Nat.le_of_ble_eq_true rfl) ⟨Nat.le_of_ble_eq_true rfl, Nat.le_of_ble_eq_true rfl⟩ ⟨Nat.le_of_ble_eq_true rfl, Nat.le_of_ble_eq_true rfl⟩ dX8_oldHere_13 (fun H locs hM hS => ?_)
    obtain ⟨q6, hq6, h⟩ := gbind_e h
    refine g_callS (As := [.ref (ad 67), .int p1, .int q5.1]) (rest := []) hx hb (hml.trans hl.1.symm) hown E hM hS hy_X8_find kw_1435 (c_X8_find_67 hq6) rfl rfl (Nat.le_of_ble_eq_true rfl) ⟨Nat.le_of_ble_eq_true rfl, Nat.le_of_ble_eq_true rfl⟩ ⟨Nat.le_of_ble_eq_true rfl, Nat.le_of_ble_eq_true rfl⟩ dX8_oldHere_16 (fun H locs hM hS => ?_)
    refine lv_goto (tgt := 23) hx hb dX8_oldHere_19 (by decide) ?_
    exact wj_X8_oldHere_23 h F E hM hS (lv_sub hl [0] rfl)
def f_X8_readOldName (p1 : Int32) (μ : gM) : Option (Int32 × gM) :=
  Option.bind (f_X8_oldHere p1 μ) (fun q1 => Option.bind (f_X8_advanceIfGood  q1.2) (fun q2 => some (q1.1, q2)))
set_option maxHeartbeats 4000000 in
set_option maxRecDepth 100000 in
theorem c_X8_readOldName {l : Launch} {D : va_G} {cy : Nat → ClassId} {ad : Nat → Nat} {base : Nat} {p1 : Int32} {μ : gM} {RES : Int32 × gM} (h : f_X8_readOldName p1 μ = some RES) : Met l yX8_readOldName [.code yX8_readOldName cX8_readOldName 3 (some .int)] ({ frames := 3, cells := 0, slots := 0, locals := 66 } : Room) (va_Pc [.ref (ad 60), .int p1] (gB l gFull D cy ad base μ)) (gQ (some (.int RES.1)) gFull D cy ad base RES.2) 0 0 (gA base) := by
  refine Met.ofW (cc := cX8_readOldName) (maxL := 3) (ret := (some .int)) (by decide) rfl ?_
  intro p e s m args below meth c s₁ B hml0 hv
  obtain ⟨rfl, E, hM⟩ := hv
  have F : gF p s m meth c cX8_readOldName RX8 3 (some .int) := gF_of B hml0
  obtain ⟨hx, hb, hml, hown, hlocks, hr⟩ := id F
  have hS : va_S (gA base) s.heap s.heap [] := va_S.rf
  have hl := lv_entry ([.ref (ad 60), .int p1]) (n := 3) (Nat.le_of_ble_eq_true rfl)
  rw [lg_entry_eq]
  generalize (lg_sl ([.ref (ad 60), .int p1]) ++ List.replicate (3 - (lg_sl ([.ref (ad 60), .int p1])).length) Slot.unset).toArray = ls at hl ⊢
  have hl : lv_has ls 3 [(0, .ref (ad 60)), (1, .int p1)] := hl
  unfold f_X8_readOldName at h
  refine lv_aload_n hx hb dX8_readOldName_0 rfl (lv_at hl 0 rfl) ?_
  refine lv_iload_n hx hb dX8_readOldName_1 rfl (lv_at hl 1 rfl) ?_
  obtain ⟨q1, hq1, h⟩ := gbind_e h
  refine g_callV (As := [.int p1]) (rest := []) hx hb (hml.trans hl.1.symm) hown E hM hS hy_X8_oldHere kw_1455 (c_X8_oldHere hq1) hk_60 dd_60 rfl rfl rfl (Nat.le_of_ble_eq_true rfl) ⟨Nat.le_of_ble_eq_true rfl, Nat.le_of_ble_eq_true rfl⟩ ⟨Nat.le_of_ble_eq_true rfl, Nat.le_of_ble_eq_true rfl⟩ dX8_readOldName_2 (fun H locs hM hS => ?_)
  refine lv_istore_n (lv' := [(2, .int q1.1), (0, .ref (ad 60)), (1, .int p1)]) hx hb dX8_readOldName_5 rfl hl (by decide) rfl (fun ls hl => ?_)
  refine lv_aload_n hx hb dX8_readOldName_6 rfl (lv_at hl 1 rfl) ?_
  obtain ⟨q2, hq2, h⟩ := gbind_e h
  refine g_callV (As := []) (rest := []) hx hb (hml.trans hl.1.symm) hown E hM hS hy_X8_advanceIfGood kw_1413 (c_X8_advanceIfGood hq2) hk_60 dd_60 rfl rfl rfl (Nat.le_of_ble_eq_true rfl) ⟨Nat.le_of_ble_eq_true rfl, Nat.le_of_ble_eq_true rfl⟩ ⟨Nat.le_of_ble_eq_true rfl, Nat.le_of_ble_eq_true rfl⟩ dX8_readOldName_7 (fun H locs hM hS => ?_)
  refine lv_iload_n hx hb dX8_readOldName_10 rfl (lv_at hl 0 rfl) ?_
  obtain rfl := Option.some.inj h
  exact g_iret hx hb hr hlocks hM hS dX8_readOldName_11
def j_X8_begin_18 (x1 : Int32) (y1 : Int32) (μ : gM) : Option (Int32 × gM) :=
  Option.bind (f_X8_check y1 (-15 : Int32) μ) (fun q3 => Option.bind (f_X8_advanceIfGood  q3) (fun q4 => gchk (gIn ((0 : Int32) + x1) 137) (some ((gi q4 67 ((0 : Int32) + x1).toNatClampNeg), q4))))
set_option maxHeartbeats 4000000 in
set_option maxRecDepth 100000 in
theorem wj_X8_begin_18 {p : Program} {l : Launch} {e : Env} {s : State} {m : MethodId} {args : Array Value} {below : List Frame} {meth : Method} {c : Code} {D : va_G} {cy : Nat → ClassId} {ad : Nat → Nat} {base : Nat} {x1 : Int32} {y1 : Int32} {μ : gM} {o : Int32 × gM} (h : j_X8_begin_18 x1 y1 μ = some o) (F : gF p s m meth c cX8_begin RX8 3 (some .int)) (E : gEnv l D cy ad base s)  {H : Heap} {locs : List Loc} {ls : Array Slot} (hM : gW gFull D cy ad base μ H) (hS : va_S (gA base) s.heap H locs) (hl : lv_has ls 3 [(0, .ref (ad 60)), (1, .int x1)]) : W p l e ({ frames := 3, cells := 0, slots := 0, locals := 63 } : Room) s m args below meth c H locs 0 0 (MQ below (gQ (some (.int o.1)) gFull D cy ad base o.2) args s 0 0 (gA base)) (F0 m 18 ls [.int y1, .ref (ad 60)]) := by
  obtain ⟨hx, hb, hml, hown, hlocks, hr⟩ := id F
  unfold j_X8_begin_18 at h
  refine lv_bipush (v := (-15 : Int32)) hx hb dX8_begin_18 (by decide) ?_
  obtain ⟨q3, hq3, h⟩ := gbind_e h
  refine g_callV (As := [.int y1, .int (-15 : Int32)]) (rest := []) hx hb (hml.trans hl.1.symm) hown E hM hS hy_X8_check kw_1409 (c_X8_check hq3) hk_60 dd_60 rfl rfl rfl (Nat.le_of_ble_eq_true rfl) ⟨Nat.le_of_ble_eq_true rfl, Nat.le_of_ble_eq_true rfl⟩ ⟨Nat.le_of_ble_eq_true rfl, Nat.le_of_ble_eq_true rfl⟩ dX8_begin_20 (fun H locs hM hS => ?_)
  refine lv_aload_n hx hb dX8_begin_23 rfl (lv_at hl 0 rfl) ?_
  obtain ⟨q4, hq4, h⟩ := gbind_e h
  refine g_callV (As := []) (rest := []) hx hb (hml.trans hl.1.symm) hown E hM hS hy_X8_advanceIfGood kw_1413 (c_X8_advanceIfGood hq4) hk_60 dd_60 rfl rfl rfl (Nat.le_of_ble_eq_true rfl) ⟨Nat.le_of_ble_eq_true rfl, Nat.le_of_ble_eq_true rfl⟩ ⟨Nat.le_of_ble_eq_true rfl, Nat.le_of_ble_eq_true rfl⟩ dX8_begin_24 (fun H locs hM hS => ?_)
  refine lv_aload_n hx hb dX8_begin_27 rfl (lv_at hl 0 rfl) ?_
  refine gg_60_8 hx hb hown E hM hk_60 kw_1250 dX8_begin_28 ?_
  refine lv_iconst (v := (0 : Int32)) hx hb dX8_begin_31 (by decide) ?_
  refine lv_iload_n hx hb dX8_begin_32 rfl (lv_at hl 1 rfl) ?_
  refine lv_iadd hx hb dX8_begin_33 ?_
  obtain ⟨c5, h⟩ := gchk_e h
  refine g_iald hx hb E hM hk_67 dd_67 c5 dX8_begin_34 ?_
  obtain rfl := Option.some.inj h
  exact g_iret hx hb hr hlocks hM hS dX8_begin_35
def f_X8_begin (p1 : Int32) (p2 : Int32) (μ : gM) : Option (Int32 × gM) :=
  gchk (gIn ((0 : Int32) + p1) 137) (if (p2 ≤ (gi μ 67 ((0 : Int32) + p1).toNatClampNeg)) then j_X8_begin_18 p1 (0 : Int32) μ else j_X8_begin_18 p1 (1 : Int32) μ)
set_option maxHeartbeats 4000000 in
set_option maxRecDepth 100000 in
theorem c_X8_begin {l : Launch} {D : va_G} {cy : Nat → ClassId} {ad : Nat → Nat} {base : Nat} {p1 : Int32} {p2 : Int32} {μ : gM} {RES : Int32 × gM} (h : f_X8_begin p1 p2 μ = some RES) : Met l yX8_begin [.code yX8_begin cX8_begin 3 (some .int)] ({ frames := 3, cells := 0, slots := 0, locals := 63 } : Room) (va_Pc [.ref (ad 60), .int p1, .int p2] (gB l gFull D cy ad base μ)) (gQ (some (.int RES.1)) gFull D cy ad base RES.2) 0 0 (gA base) := by
  refine Met.ofW (cc := cX8_begin) (maxL := 3) (ret := (some .int)) (by decide) rfl ?_
  intro p e s m args below meth c s₁ B hml0 hv
  obtain ⟨rfl, E, hM⟩ := hv
  have F : gF p s m meth c cX8_begin RX8 3 (some .int) := gF_of B hml0
  obtain ⟨hx, hb, hml, hown, hlocks, hr⟩ := id F
  have hS : va_S (gA base) s.heap s.heap [] := va_S.rf
  have hl := lv_entry ([.ref (ad 60), .int p1, .int p2]) (n := 3) (Nat.le_of_ble_eq_true rfl)
  rw [lg_entry_eq]
  generalize (lg_sl ([.ref (ad 60), .int p1, .int p2]) ++ List.replicate (3 - (lg_sl ([.ref (ad 60), .int p1, .int p2])).length) Slot.unset).toArray = ls at hl ⊢
  have hl : lv_has ls 3 [(0, .ref (ad 60)), (1, .int p1), (2, .int p2)] := hl
  unfold f_X8_begin at h
  refine lv_aload_n hx hb dX8_begin_0 rfl (lv_at hl 0 rfl) ?_
  refine lv_aload_n hx hb dX8_begin_1 rfl (lv_at hl 0 rfl) ?_
  refine gg_60_8 hx hb hown E hM hk_60 kw_1250 dX8_begin_2 ?_
  refine lv_iconst (v := (0 : Int32)) hx hb dX8_begin_5 (by decide) ?_
  refine lv_iload_n hx hb dX8_begin_6 rfl (lv_at hl 1 rfl) ?_
  refine lv_iadd hx hb dX8_begin_7 ?_
  obtain ⟨c1, h⟩ := gchk_e h
  refine g_iald hx hb E hM hk_67 dd_67 c1 dX8_begin_8 ?_
  refine lv_iload_n hx hb dX8_begin_9 rfl (lv_at hl 2 rfl) ?_
  refine lv_icmp_ge (tgt := 17) hx hb dX8_begin_10 (by decide) (fun c2 => ?_) (fun c2 => ?_)
  · replace h := gif_t c2 h
    refine lv_iconst (v := (0 : Int32)) hx hb dX8_begin_17 (by decide) ?_
    exact wj_X8_begin_18 h F E hM hS (lv_sub hl [0, 1] rfl)
  · replace h := gif_f c2 h
    refine lv_iconst (v := (1 : Int32)) hx hb dX8_begin_13 (by decide) ?_
    refine lv_goto (tgt := 18) hx hb dX8_begin_14 (by decide) ?_
    exact wj_X8_begin_18 h F E hM hS (lv_sub hl [0, 1] rfl)
def j_X8_parseLevel_75 (y1 : Int32) (y2 : Int32) (μ : gM) : Option (gM) :=
  gchk (gIn y1 703) (gchk (gIn (0 : Int32) 137) (gchk (gIn (0 : Int32) 137) (some (si (si μ 62 y1.toNatClampNeg y2) 67 (0 : Int32).toNatClampNeg ((gi (si μ 62 y1.toNatClampNeg y2) 67 (0 : Int32).toNatClampNeg) + (1 : Int32))))))
set_option maxHeartbeats 4000000 in
set_option maxRecDepth 100000 in
theorem wj_X8_parseLevel_75 {p : Program} {l : Launch} {e : Env} {s : State} {m : MethodId} {args : Array Value} {below : List Frame} {meth : Method} {c : Code} {D : va_G} {cy : Nat → ClassId} {ad : Nat → Nat} {base : Nat} {y1 : Int32} {y2 : Int32} {μ : gM} {o : gM} (h : j_X8_parseLevel_75 y1 y2 μ = some o) (F : gF p s m meth c cX8_parseLevel RX8 5 none) (E : gEnv l D cy ad base s)  {H : Heap} {locs : List Loc} {ls : Array Slot} (hM : gW gFull D cy ad base μ H) (hS : va_S (gA base) s.heap H locs) (hl : lv_has ls 5 [(0, .ref (ad 60))]) : W p l e ({ frames := 4, cells := 0, slots := 0, locals := 86 } : Room) s m args below meth c H locs 0 0 (MQ below (gQ none gFull D cy ad base o) args s 0 0 (gA base)) (F0 m 75 ls [.int y2, .int y1, .ref (ad 62)]) := by
  obtain ⟨hx, hb, hml, hown, hlocks, hr⟩ := id F
  unfold j_X8_parseLevel_75 at h
  obtain ⟨c9, h⟩ := gchk_e h
  refine g_iast hx hb E hM hS hk_62 dd_62 c9 dX8_parseLevel_75 (fun H locs hM hS => ?_)
  refine lv_aload_n hx hb dX8_parseLevel_76 rfl (lv_at hl 0 rfl) ?_
  refine gg_60_8 hx hb hown E hM hk_60 kw_1250 dX8_parseLevel_77 ?_
  refine lv_iconst (v := (0 : Int32)) hx hb dX8_parseLevel_80 (by decide) ?_
  refine lv_dup2_11 hx hb dX8_parseLevel_81 rfl rfl ?_
  obtain ⟨c10, h⟩ := gchk_e h
  refine g_iald hx hb E hM hk_67 dd_67 c10 dX8_parseLevel_82 ?_
  refine lv_iconst (v := (1 : Int32)) hx hb dX8_parseLevel_83 (by decide) ?_
  refine lv_iadd hx hb dX8_parseLevel_84 ?_
  obtain ⟨c11, h⟩ := gchk_e h
  refine g_iast hx hb E hM hS hk_67 dd_67 c11 dX8_parseLevel_85 (fun H locs hM hS => ?_)
  obtain rfl := Option.some.inj h
  exact g_vret hx hb hr hlocks hM hS dX8_parseLevel_86
def j_X8_parseLevel_39 (x1 : Int32) (x2 : Int32) (x3 : Int32) (x4 : Int32) (μ : gM) : Option (gM) :=
  if ((gi μ 60 17) = 0) then gchk (gIn ((118 : Int32) + x1) 137) (if (x4 = 0) then j_X8_parseLevel_75 ((3 : Int32) + x1) x3 (si μ 67 ((118 : Int32) + x1).toNatClampNeg x2) else j_X8_parseLevel_75 ((3 : Int32) + x1) (-x3) (si μ 67 ((118 : Int32) + x1).toNatClampNeg x2)) else some μ
set_option maxHeartbeats 4000000 in
set_option maxRecDepth 100000 in
theorem wj_X8_parseLevel_39 {p : Program} {l : Launch} {e : Env} {s : State} {m : MethodId} {args : Array Value} {below : List Frame} {meth : Method} {c : Code} {D : va_G} {cy : Nat → ClassId} {ad : Nat → Nat} {base : Nat} {x1 : Int32} {x2 : Int32} {x3 : Int32} {x4 : Int32} {μ : gM} {o : gM} (h : j_X8_parseLevel_39 x1 x2 x3 x4 μ = some o) (F : gF p s m meth c cX8_parseLevel RX8 5 none) (E : gEnv l D cy ad base s)  {H : Heap} {locs : List Loc} {ls : Array Slot} (hM : gW gFull D cy ad base μ H) (hS : va_S (gA base) s.heap H locs) (hl : lv_has ls 5 [(0, .ref (ad 60)), (1, .int x1), (2, .int x2), (3, .int x3), (4, .int x4)]) : W p l e ({ frames := 4, cells := 0, slots := 0, locals := 86 } : Room) s m args below meth c H locs 0 0 (MQ below (gQ none gFull D cy ad base o) args s 0 0 (gA base)) (F0 m 39 ls []) := by
  obtain ⟨hx, hb, hml, hown, hlocks, hr⟩ := id F
  unfold j_X8_parseLevel_39 at h
  refine lv_aload_n hx hb dX8_parseLevel_39 rfl (lv_at hl 0 rfl) ?_
  refine gg_60_17 hx hb hown E hM hk_60 kw_1259 dX8_parseLevel_40 ?_
  refine lv_if_eq (tgt := 47) hx hb dX8_parseLevel_43 (by decide) (fun c6 => ?_) (fun c6 => ?_)
  · replace h := gif_t c6 h
    refine lv_aload_n hx hb dX8_parseLevel_47 rfl (lv_at hl 0 rfl) ?_
    refine gg_60_8 hx hb hown E hM hk_60 kw_1250 dX8_parseLevel_48 ?_
    refine lv_bipush (v := (118 : Int32)) hx hb dX8_parseLevel_51 (by decide) ?_
    refine lv_iload_n hx hb dX8_parseLevel_53 rfl (lv_at hl 1 rfl) ?_
    refine lv_iadd hx hb dX8_parseLevel_54 ?_
    refine lv_iload_n hx hb dX8_parseLevel_55 rfl (lv_at hl 2 rfl) ?_
    obtain ⟨c7, h⟩ := gchk_e h
    refine g_iast hx hb E hM hS hk_67 dd_67 c7 dX8_parseLevel_56 (fun H locs hM hS => ?_)
    refine lv_aload_n hx hb dX8_parseLevel_57 rfl (lv_at hl 0 rfl) ?_
    refine gg_60_1 hx hb hown E hM hk_60 kw_1243 dX8_parseLevel_58 ?_
    refine lv_iconst (v := (3 : Int32)) hx hb dX8_parseLevel_61 (by decide) ?_
    refine lv_iload_n hx hb dX8_parseLevel_62 rfl (lv_at hl 1 rfl) ?_
    refine lv_iadd hx hb dX8_parseLevel_63 ?_
    refine lv_iload hx hb dX8_parseLevel_64 (lv_at hl 4 rfl) ?_
    refine lv_if_eq (tgt := 74) hx hb dX8_parseLevel_66 (by decide) (fun c8 => ?_) (fun c8 => ?_)
    · replace h := gif_t c8 h
      refine lv_iload_n hx hb dX8_parseLevel_74 rfl (lv_at hl 3 rfl) ?_
      exact wj_X8_parseLevel_75 h F E hM hS (lv_sub hl [0] rfl)
    · replace h := gif_f c8 h
      refine lv_iload_n hx hb dX8_parseLevel_69 rfl (lv_at hl 3 rfl) ?_
      refine lv_ineg hx hb dX8_parseLevel_70 ?_
      refine lv_goto (tgt := 75) hx hb dX8_parseLevel_71 (by decide) ?_
      exact wj_X8_parseLevel_75 h F E hM hS (lv_sub hl [0] rfl)
  · replace h := gif_f c6 h
    obtain rfl := Option.some.inj h
    exact g_vret hx hb hr hlocks hM hS dX8_parseLevel_46
def f_X8_parseLevel (μ : gM) : Option (gM) :=
  Option.bind (f_X8_begin (0 : Int32) (3 : Int32) μ) (fun q1 => Option.bind (f_X8_readNewName  q1.2) (fun q2 => Option.bind (f_X8_readInteger (0 : Int32) (200 : Int32) q2.2) (fun q3 => Option.bind (f_X8_isWord (147182 : Int64) q3.2) (fun q4 => if ((b2i q4) = 0) then j_X8_parseLevel_39 q1.1 q2.1 q3.1 (b2i q4) q3.2 else Option.bind (f_X8_advance  q3.2) (fun q12 => j_X8_parseLevel_39 q1.1 q2.1 q3.1 (b2i q4) q12)))))
set_option maxHeartbeats 4000000 in
set_option maxRecDepth 100000 in
theorem c_X8_parseLevel {l : Launch} {D : va_G} {cy : Nat → ClassId} {ad : Nat → Nat} {base : Nat}  {μ : gM} {RES : gM} (h : f_X8_parseLevel  μ = some RES) : Met l yX8_parseLevel [.code yX8_parseLevel cX8_parseLevel 5 none] ({ frames := 4, cells := 0, slots := 0, locals := 86 } : Room) (va_Pc [.ref (ad 60)] (gB l gFull D cy ad base μ)) (gQ none gFull D cy ad base RES) 0 0 (gA base) := by
  refine Met.ofW (cc := cX8_parseLevel) (maxL := 5) (ret := none) (by decide) rfl ?_
  intro p e s m args below meth c s₁ B hml0 hv
  obtain ⟨rfl, E, hM⟩ := hv
  have F : gF p s m meth c cX8_parseLevel RX8 5 none := gF_of B hml0
  obtain ⟨hx, hb, hml, hown, hlocks, hr⟩ := id F
  have hS : va_S (gA base) s.heap s.heap [] := va_S.rf
  have hl := lv_entry ([.ref (ad 60)]) (n := 5) (Nat.le_of_ble_eq_true rfl)
  rw [lg_entry_eq]
  generalize (lg_sl ([.ref (ad 60)]) ++ List.replicate (5 - (lg_sl ([.ref (ad 60)])).length) Slot.unset).toArray = ls at hl ⊢
  have hl : lv_has ls 5 [(0, .ref (ad 60))] := hl
  unfold f_X8_parseLevel at h
  refine lv_aload_n hx hb dX8_parseLevel_0 rfl (lv_at hl 0 rfl) ?_
  refine lv_iconst (v := (0 : Int32)) hx hb dX8_parseLevel_1 (by decide) ?_
  refine lv_iconst (v := (3 : Int32)) hx hb dX8_parseLevel_2 (by decide) ?_
  obtain ⟨q1, hq1, h⟩ := gbind_e h
  refine g_callV (As := [.int (0 : Int32), .int (3 : Int32)]) (rest := []) hx hb (hml.trans hl.1.symm) hown E hM hS hy_X8_begin kw_1405 (c_X8_begin hq1) hk_60 dd_60 rfl rfl rfl (Nat.le_of_ble_eq_true rfl) ⟨Nat.le_of_ble_eq_true rfl, Nat.le_of_ble_eq_true rfl⟩ ⟨Nat.le_of_ble_eq_true rfl, Nat.le_of_ble_eq_true rfl⟩ dX8_parseLevel_3 (fun H locs hM hS => ?_)
  refine lv_istore_n (lv' := [(1, .int q1.1), (0, .ref (ad 60))]) hx hb dX8_parseLevel_6 rfl hl (by decide) rfl (fun ls hl => ?_)
  refine lv_aload_n hx hb dX8_parseLevel_7 rfl (lv_at hl 1 rfl) ?_
  obtain ⟨q2, hq2, h⟩ := gbind_e h
  refine g_callV (As := []) (rest := []) hx hb (hml.trans hl.1.symm) hown E hM hS hy_X8_readNewName kw_1417 (c_X8_readNewName hq2) hk_60 dd_60 rfl rfl rfl (Nat.le_of_ble_eq_true rfl) ⟨Nat.le_of_ble_eq_true rfl, Nat.le_of_ble_eq_true rfl⟩ ⟨Nat.le_of_ble_eq_true rfl, Nat.le_of_ble_eq_true rfl⟩ dX8_parseLevel_8 (fun H locs hM hS => ?_)
  refine lv_istore_n (lv' := [(2, .int q2.1), (1, .int q1.1), (0, .ref (ad 60))]) hx hb dX8_parseLevel_11 rfl hl (by decide) rfl (fun ls hl => ?_)
  refine lv_aload_n hx hb dX8_parseLevel_12 rfl (lv_at hl 2 rfl) ?_
  refine lv_iconst (v := (0 : Int32)) hx hb dX8_parseLevel_13 (by decide) ?_
  refine lv_sipush (v := (200 : Int32)) hx hb dX8_parseLevel_14 (by decide) ?_
  obtain ⟨q3, hq3, h⟩ := gbind_e h
  refine g_callV (As := [.int (0 : Int32), .int (200 : Int32)]) (rest := []) hx hb (hml.trans hl.1.symm) hown E hM hS hy_X8_readInteger kw_1438 (c_X8_readInteger hq3) hk_60 dd_60 rfl rfl rfl (Nat.le_of_ble_eq_true rfl) ⟨Nat.le_of_ble_eq_true rfl, Nat.le_of_ble_eq_true rfl⟩ ⟨Nat.le_of_ble_eq_true rfl, Nat.le_of_ble_eq_true rfl⟩ dX8_parseLevel_17 (fun H locs hM hS => ?_)
  refine lv_istore_n (lv' := [(3, .int q3.1), (2, .int q2.1), (1, .int q1.1), (0, .ref (ad 60))]) hx hb dX8_parseLevel_20 rfl hl (by decide) rfl (fun ls hl => ?_)
  refine lv_aload_n hx hb dX8_parseLevel_21 rfl (lv_at hl 3 rfl) ?_
  refine lv_ldc2 hx hb hown (v := (147182 : Int64)) (E.kw kw_1429) dX8_parseLevel_22 ?_
  obtain ⟨q4, hq4, h⟩ := gbind_e h
  refine g_callV (As := [.long (147182 : Int64)]) (rest := []) hx hb (hml.trans hl.1.symm) hown E hM hS hy_X8_isWord kw_1397 (c_X8_isWord hq4) hk_60 dd_60 rfl rfl rfl (Nat.le_of_ble_eq_true rfl) ⟨Nat.le_of_ble_eq_true rfl, Nat.le_of_ble_eq_true rfl⟩ ⟨Nat.le_of_ble_eq_true rfl, Nat.le_of_ble_eq_true rfl⟩ dX8_parseLevel_25 (fun H locs hM hS => ?_)
  refine lv_istore (lv' := [(4, .int (b2i q4)), (3, .int q3.1), (2, .int q2.1), (1, .int q1.1), (0, .ref (ad 60))]) hx hb dX8_parseLevel_28 hl (by decide) rfl (fun ls hl => ?_)
  refine lv_iload hx hb dX8_parseLevel_30 (lv_at hl 0 rfl) ?_
  refine lv_if_eq (tgt := 39) hx hb dX8_parseLevel_32 (by decide) (fun c5 => ?_) (fun c5 => ?_)
  · replace h := gif_t c5 h
    exact wj_X8_parseLevel_39 h F E hM hS (lv_sub hl [4, 3, 2, 1, 0] rfl)
  · replace h := gif_f c5 h
    refine lv_aload_n hx hb dX8_parseLevel_35 rfl (lv_at hl 4 rfl) ?_
    obtain ⟨q12, hq12, h⟩ := gbind_e h
    refine g_callV (As := []) (rest := []) hx hb (hml.trans hl.1.symm) hown E hM hS hy_X8_advance kw_1382 (c_X8_advance hq12) hk_60 dd_60 rfl rfl rfl (Nat.le_of_ble_eq_true rfl) ⟨Nat.le_of_ble_eq_true rfl, Nat.le_of_ble_eq_true rfl⟩ ⟨Nat.le_of_ble_eq_true rfl, Nat.le_of_ble_eq_true rfl⟩ dX8_parseLevel_36 (fun H locs hM hS => ?_)
    exact wj_X8_parseLevel_39 h F E hM hS (lv_sub hl [4, 3, 2, 1, 0] rfl)
def j_X8_parsePoint_39 (x1 : Int32) (x2 : Int32) (y0 : Int32) (μ : gM) : Option (gM) :=
  if ((gi μ 60 17) = 0) then gchk (gIn ((121 : Int32) + x1) 137) (gchk (gIn ((6 : Int32) + x1) 703) (gchk (gIn (1 : Int32) 137) (gchk (gIn (1 : Int32) 137) (some (si (si (si μ 67 ((121 : Int32) + x1).toNatClampNeg x2) 62 ((6 : Int32) + x1).toNatClampNeg y0) 67 (1 : Int32).toNatClampNeg ((gi (si (si μ 67 ((121 : Int32) + x1).toNatClampNeg x2) 62 ((6 : Int32) + x1).toNatClampNeg y0) 67 (1 : Int32).toNatClampNeg) + (1 : Int32))))))) else some μ
set_option maxHeartbeats 4000000 in
set_option maxRecDepth 100000 in
theorem wj_X8_parsePoint_39 {p : Program} {l : Launch} {e : Env} {s : State} {m : MethodId} {args : Array Value} {below : List Frame} {meth : Method} {c : Code} {D : va_G} {cy : Nat → ClassId} {ad : Nat → Nat} {base : Nat} {x1 : Int32} {x2 : Int32} {y0 : Int32} {μ : gM} {o : gM} (h : j_X8_parsePoint_39 x1 x2 y0 μ = some o) (F : gF p s m meth c cX8_parsePoint RX8 4 none) (E : gEnv l D cy ad base s)  {H : Heap} {locs : List Loc} {ls : Array Slot} (hM : gW gFull D cy ad base μ H) (hS : va_S (gA base) s.heap H locs) (hl : lv_has ls 4 [(0, .ref (ad 60)), (1, .int x1), (2, .int x2)]) : W p l e ({ frames := 4, cells := 0, slots := 0, locals := 86 } : Room) s m args below meth c H locs 0 0 (MQ below (gQ none gFull D cy ad base o) args s 0 0 (gA base)) (F0 m 39 ls [.int y0]) := by
  obtain ⟨hx, hb, hml, hown, hlocks, hr⟩ := id F
  unfold j_X8_parsePoint_39 at h
  refine lv_istore_n (lv' := [(3, .int y0), (0, .ref (ad 60)), (1, .int x1), (2, .int x2)]) hx hb dX8_parsePoint_39 rfl hl (by decide) rfl (fun ls hl => ?_)
  refine lv_aload_n hx hb dX8_parsePoint_40 rfl (lv_at hl 1 rfl) ?_
  refine gg_60_17 hx hb hown E hM hk_60 kw_1259 dX8_parsePoint_41 ?_
  refine lv_if_eq (tgt := 48) hx hb dX8_parsePoint_44 (by decide) (fun c4 => ?_) (fun c4 => ?_)
  · replace h := gif_t c4 h
    refine lv_aload_n hx hb dX8_parsePoint_48 rfl (lv_at hl 1 rfl) ?_
    refine gg_60_8 hx hb hown E hM hk_60 kw_1250 dX8_parsePoint_49 ?_
    refine lv_bipush (v := (121 : Int32)) hx hb dX8_parsePoint_52 (by decide) ?_
    refine lv_iload_n hx hb dX8_parsePoint_54 rfl (lv_at hl 2 rfl) ?_
    refine lv_iadd hx hb dX8_parsePoint_55 ?_
    refine lv_iload_n hx hb dX8_parsePoint_56 rfl (lv_at hl 3 rfl) ?_
    obtain ⟨c5, h⟩ := gchk_e h
    refine g_iast hx hb E hM hS hk_67 dd_67 c5 dX8_parsePoint_57 (fun H locs hM hS => ?_)
    refine lv_aload_n hx hb dX8_parsePoint_58 rfl (lv_at hl 1 rfl) ?_
    refine gg_60_1 hx hb hown E hM hk_60 kw_1243 dX8_parsePoint_59 ?_
    refine lv_bipush (v := (6 : Int32)) hx hb dX8_parsePoint_62 (by decide) ?_
    refine lv_iload_n hx hb dX8_parsePoint_64 rfl (lv_at hl 2 rfl) ?_
    refine lv_iadd hx hb dX8_parsePoint_65 ?_
    refine lv_iload_n hx hb dX8_parsePoint_66 rfl (lv_at hl 0 rfl) ?_
    obtain ⟨c6, h⟩ := gchk_e h
    refine g_iast hx hb E hM hS hk_62 dd_62 c6 dX8_parsePoint_67 (fun H locs hM hS => ?_)
    refine lv_aload_n hx hb dX8_parsePoint_68 rfl (lv_at hl 1 rfl) ?_
    refine gg_60_8 hx hb hown E hM hk_60 kw_1250 dX8_parsePoint_69 ?_
    refine lv_iconst (v := (1 : Int32)) hx hb dX8_parsePoint_72 (by decide) ?_
    refine lv_dup2_11 hx hb dX8_parsePoint_73 rfl rfl ?_
    obtain ⟨c7, h⟩ := gchk_e h
    refine g_iald hx hb E hM hk_67 dd_67 c7 dX8_parsePoint_74 ?_
    refine lv_iconst (v := (1 : Int32)) hx hb dX8_parsePoint_75 (by decide) ?_
    refine lv_iadd hx hb dX8_parsePoint_76 ?_
    obtain ⟨c8, h⟩ := gchk_e h
    refine g_iast hx hb E hM hS hk_67 dd_67 c8 dX8_parsePoint_77 (fun H locs hM hS => ?_)
    obtain rfl := Option.some.inj h
    exact g_vret hx hb hr hlocks hM hS dX8_parsePoint_78
  · replace h := gif_f c4 h
    obtain rfl := Option.some.inj h
    exact g_vret hx hb hr hlocks hM hS dX8_parsePoint_47
def j_X8_parsePoint_38 (x1 : Int32) (x2 : Int32) (μ : gM) : Option (gM) :=
  j_X8_parsePoint_39 x1 x2 (-1 : Int32) μ
set_option maxHeartbeats 4000000 in
set_option maxRecDepth 100000 in
theorem wj_X8_parsePoint_38 {p : Program} {l : Launch} {e : Env} {s : State} {m : MethodId} {args : Array Value} {below : List Frame} {meth : Method} {c : Code} {D : va_G} {cy : Nat → ClassId} {ad : Nat → Nat} {base : Nat} {x1 : Int32} {x2 : Int32} {μ : gM} {o : gM} (h : j_X8_parsePoint_38 x1 x2 μ = some o) (F : gF p s m meth c cX8_parsePoint RX8 4 none) (E : gEnv l D cy ad base s)  {H : Heap} {locs : List Loc} {ls : Array Slot} (hM : gW gFull D cy ad base μ H) (hS : va_S (gA base) s.heap H locs) (hl : lv_has ls 4 [(0, .ref (ad 60)), (1, .int x1), (2, .int x2)]) : W p l e ({ frames := 4, cells := 0, slots := 0, locals := 86 } : Room) s m args below meth c H locs 0 0 (MQ below (gQ none gFull D cy ad base o) args s 0 0 (gA base)) (F0 m 38 ls []) := by
  obtain ⟨hx, hb, hml, hown, hlocks, hr⟩ := id F
  unfold j_X8_parsePoint_38 at h
  refine lv_iconst (v := (-1 : Int32)) hx hb dX8_parsePoint_38 (by decide) ?_
  exact wj_X8_parsePoint_39 h F E hM hS hl
def f_X8_parsePoint (μ : gM) : Option (gM) :=
  Option.bind (f_X8_begin (1 : Int32) (16 : Int32) μ) (fun q1 => Option.bind (f_X8_readNewName  q1.2) (fun q2 => if ((gi q2.2 60 17) = 0) then if ((gi q2.2 60 14) = (2 : Int32)) then Option.bind (f_X8_readInteger (0 : Int32) (9999999 : Int32) q2.2) (fun q10 => j_X8_parsePoint_39 q1.1 q2.1 q10.1 q10.2) else j_X8_parsePoint_38 q1.1 q2.1 q2.2 else j_X8_parsePoint_38 q1.1 q2.1 q2.2))
set_option maxHeartbeats 4000000 in
set_option maxRecDepth 100000 in
theorem c_X8_parsePoint {l : Launch} {D : va_G} {cy : Nat → ClassId} {ad : Nat → Nat} {base : Nat}  {μ : gM} {RES : gM} (h : f_X8_parsePoint  μ = some RES) : Met l yX8_parsePoint [.code yX8_parsePoint cX8_parsePoint 4 none] ({ frames := 4, cells := 0, slots := 0, locals := 86 } : Room) (va_Pc [.ref (ad 60)] (gB l gFull D cy ad base μ)) (gQ none gFull D cy ad base RES) 0 0 (gA base) := by
  refine Met.ofW (cc := cX8_parsePoint) (maxL := 4) (ret := none) (by decide) rfl ?_
  intro p e s m args below meth c s₁ B hml0 hv
  obtain ⟨rfl, E, hM⟩ := hv
  have F : gF p s m meth c cX8_parsePoint RX8 4 none := gF_of B hml0
  obtain ⟨hx, hb, hml, hown, hlocks, hr⟩ := id F
  have hS : va_S (gA base) s.heap s.heap [] := va_S.rf
  have hl := lv_entry ([.ref (ad 60)]) (n := 4) (Nat.le_of_ble_eq_true rfl)
  rw [lg_entry_eq]
  generalize (lg_sl ([.ref (ad 60)]) ++ List.replicate (4 - (lg_sl ([.ref (ad 60)])).length) Slot.unset).toArray = ls at hl ⊢
  have hl : lv_has ls 4 [(0, .ref (ad 60))] := hl
  unfold f_X8_parsePoint at h
  refine lv_aload_n hx hb dX8_parsePoint_0 rfl (lv_at hl 0 rfl) ?_
  refine lv_iconst (v := (1 : Int32)) hx hb dX8_parsePoint_1 (by decide) ?_
  refine lv_bipush (v := (16 : Int32)) hx hb dX8_parsePoint_2 (by decide) ?_
  obtain ⟨q1, hq1, h⟩ := gbind_e h
  refine g_callV (As := [.int (1 : Int32), .int (16 : Int32)]) (rest := []) hx hb (hml.trans hl.1.symm) hown E hM hS hy_X8_begin kw_1405 (c_X8_begin hq1) hk_60 dd_60 rfl rfl rfl (Nat.le_of_ble_eq_true rfl) ⟨Nat.le_of_ble_eq_true rfl, Nat.le_of_ble_eq_true rfl⟩ ⟨Nat.le_of_ble_eq_true rfl, Nat.le_of_ble_eq_true rfl⟩ dX8_parsePoint_4 (fun H locs hM hS => ?_)
  refine lv_istore_n (lv' := [(1, .int q1.1), (0, .ref (ad 60))]) hx hb dX8_parsePoint_7 rfl hl (by decide) rfl (fun ls hl => ?_)
  refine lv_aload_n hx hb dX8_parsePoint_8 rfl (lv_at hl 1 rfl) ?_
  obtain ⟨q2, hq2, h⟩ := gbind_e h
  refine g_callV (As := []) (rest := []) hx hb (hml.trans hl.1.symm) hown E hM hS hy_X8_readNewName kw_1417 (c_X8_readNewName hq2) hk_60 dd_60 rfl rfl rfl (Nat.le_of_ble_eq_true rfl) ⟨Nat.le_of_ble_eq_true rfl, Nat.le_of_ble_eq_true rfl⟩ ⟨Nat.le_of_ble_eq_true rfl, Nat.le_of_ble_eq_true rfl⟩ dX8_parsePoint_9 (fun H locs hM hS => ?_)
  refine lv_istore_n (lv' := [(2, .int q2.1), (1, .int q1.1), (0, .ref (ad 60))]) hx hb dX8_parsePoint_12 rfl hl (by decide) rfl (fun ls hl => ?_)
  refine lv_aload_n hx hb dX8_parsePoint_13 rfl (lv_at hl 2 rfl) ?_
  refine gg_60_17 hx hb hown E hM hk_60 kw_1259 dX8_parsePoint_14 ?_
  refine lv_if_ne (tgt := 38) hx hb dX8_parsePoint_17 (by decide) (fun c3 => ?_) (fun c3 => ?_)
  · replace h := gif_f c3 h
    exact wj_X8_parsePoint_38 h F E hM hS (lv_sub hl [2, 1, 0] rfl)
  · replace h := gif_t c3 h
    refine lv_aload_n hx hb dX8_parsePoint_20 rfl (lv_at hl 2 rfl) ?_
    refine gg_60_14 hx hb hown E hM hk_60 kw_1256 dX8_parsePoint_21 ?_
    refine lv_iconst (v := (2 : Int32)) hx hb dX8_parsePoint_24 (by decide) ?_
    refine lv_icmp_ne (tgt := 38) hx hb dX8_parsePoint_25 (by decide) (fun c9 => ?_) (fun c9 => ?_)
    · replace h := gif_f c9 h
      exact wj_X8_parsePoint_38 h F E hM hS (lv_sub hl [2, 1, 0] rfl)
    · replace h := gif_t c9 h
      refine lv_aload_n hx hb dX8_parsePoint_28 rfl (lv_at hl 2 rfl) ?_
      refine lv_iconst (v := (0 : Int32)) hx hb dX8_parsePoint_29 (by decide) ?_
      refine lv_ldc hx hb hown (v := (9999999 : Int32)) (E.kw kw_1446) dX8_parsePoint_30 ?_
      obtain ⟨q10, hq10, h⟩ := gbind_e h
      refine g_callV (As := [.int (0 : Int32), .int (9999999 : Int32)]) (rest := []) hx hb (hml.trans hl.1.symm) hown E hM hS hy_X8_readInteger kw_1438 (c_X8_readInteger hq10) hk_60 dd_60 rfl rfl rfl (Nat.le_of_ble_eq_true rfl) ⟨Nat.le_of_ble_eq_true rfl, Nat.le_of_ble_eq_true rfl⟩ ⟨Nat.le_of_ble_eq_true rfl, Nat.le_of_ble_eq_true rfl⟩ dX8_parsePoint_32 (fun H locs hM hS => ?_)
      refine lv_goto (tgt := 39) hx hb dX8_parsePoint_35 (by decide) ?_
      exact wj_X8_parsePoint_39 h F E hM hS (lv_sub hl [2, 1, 0] rfl)
def f_X8_readNumber (p1 : Int32) (p2 : Int32) (p3 : Int32) (μ : gM) : Option (gM) :=
  Option.bind (f_X8_readInteger p2 p3 μ) (fun q1 => if ((gi q1.2 60 17) = 0) then gchk (gIn p1 703) (some (si q1.2 62 p1.toNatClampNeg q1.1)) else some q1.2)
set_option maxHeartbeats 4000000 in
set_option maxRecDepth 100000 in
theorem c_X8_readNumber {l : Launch} {D : va_G} {cy : Nat → ClassId} {ad : Nat → Nat} {base : Nat} {p1 : Int32} {p2 : Int32} {p3 : Int32} {μ : gM} {RES : gM} (h : f_X8_readNumber p1 p2 p3 μ = some RES) : Met l yX8_readNumber [.code yX8_readNumber cX8_readNumber 5 none] ({ frames := 4, cells := 0, slots := 0, locals := 86 } : Room) (va_Pc [.ref (ad 60), .int p1, .int p2, .int p3] (gB l gFull D cy ad base μ)) (gQ none gFull D cy ad base RES) 0 0 (gA base) := by
  refine Met.ofW (cc := cX8_readNumber) (maxL := 5) (ret := none) (by decide) rfl ?_
  intro p e s m args below meth c s₁ B hml0 hv
  obtain ⟨rfl, E, hM⟩ := hv
  have F : gF p s m meth c cX8_readNumber RX8 5 none := gF_of B hml0
  obtain ⟨hx, hb, hml, hown, hlocks, hr⟩ := id F
  have hS : va_S (gA base) s.heap s.heap [] := va_S.rf
  have hl := lv_entry ([.ref (ad 60), .int p1, .int p2, .int p3]) (n := 5) (Nat.le_of_ble_eq_true rfl)
  rw [lg_entry_eq]
  generalize (lg_sl ([.ref (ad 60), .int p1, .int p2, .int p3]) ++ List.replicate (5 - (lg_sl ([.ref (ad 60), .int p1, .int p2, .int p3])).length) Slot.unset).toArray = ls at hl ⊢
  have hl : lv_has ls 5 [(0, .ref (ad 60)), (1, .int p1), (2, .int p2), (3, .int p3)] := hl
  unfold f_X8_readNumber at h
  refine lv_aload_n hx hb dX8_readNumber_0 rfl (lv_at hl 0 rfl) ?_
  refine lv_iload_n hx hb dX8_readNumber_1 rfl (lv_at hl 2 rfl) ?_
  refine lv_iload_n hx hb dX8_readNumber_2 rfl (lv_at hl 3 rfl) ?_
  obtain ⟨q1, hq1, h⟩ := gbind_e h
  refine g_callV (As := [.int p2, .int p3]) (rest := []) hx hb (hml.trans hl.1.symm) hown E hM hS hy_X8_readInteger kw_1438 (c_X8_readInteger hq1) hk_60 dd_60 rfl rfl rfl (Nat.le_of_ble_eq_true rfl) ⟨Nat.le_of_ble_eq_true rfl, Nat.le_of_ble_eq_true rfl⟩ ⟨Nat.le_of_ble_eq_true rfl, Nat.le_of_ble_eq_true rfl⟩ dX8_readNumber_3 (fun H locs hM hS => ?_)
  refine lv_istore (lv' := [(4, .int q1.1), (0, .ref (ad 60)), (1, .int p1), (2, .int p2), (3, .int p3)]) hx hb dX8_readNumber_6 hl (by decide) rfl (fun ls hl => ?_)
  refine lv_aload_n hx hb dX8_readNumber_8 rfl (lv_at hl 1 rfl) ?_
  refine gg_60_17 hx hb hown E hM hk_60 kw_1259 dX8_readNumber_9 ?_
  refine lv_if_ne (tgt := 23) hx hb dX8_readNumber_12 (by decide) (fun c2 => ?_) (fun c2 => ?_)
  · replace h := gif_f c2 h
    obtain rfl := Option.some.inj h
    exact g_vret hx hb hr hlocks hM hS dX8_readNumber_23
  · replace h := gif_t c2 h
    refine lv_aload_n hx hb dX8_readNumber_15 rfl (lv_at hl 1 rfl) ?_
    refine gg_60_1 hx hb hown E hM hk_60 kw_1243 dX8_readNumber_16 ?_
    refine lv_iload_n hx hb dX8_readNumber_19 rfl (lv_at hl 2 rfl) ?_
    refine lv_iload hx hb dX8_readNumber_20 (lv_at hl 0 rfl) ?_
    obtain ⟨c3, h⟩ := gchk_e h
    refine g_iast hx hb E hM hS hk_62 dd_62 c3 dX8_readNumber_22 (fun H locs hM hS => ?_)
    obtain rfl := Option.some.inj h
    exact g_vret hx hb hr hlocks hM hS dX8_readNumber_23
def j_X8_parseSetup_47 (x1 : Int32) (x2 : Int32) (y1 : Int32) (μ : gM) : Option (gM) :=
  Option.bind (f_X8_check y1 (-15 : Int32) μ) (fun q6 => if ((gi q6 60 17) = 0) then Option.bind (f_X8_setupAt x1 x2 (0 : Int32) q6) (fun q8 => Option.bind (f_X8_readNumber q8 (0 : Int32) (40000 : Int32) q6) (fun q9 => Option.bind (f_X8_setupAt x1 x2 (1 : Int32) q9) (fun q10 => Option.bind (f_X8_readNumber q10 (0 : Int32) (40000 : Int32) q9) (fun q11 => Option.bind (f_X8_setupAt x1 x2 (2 : Int32) q11) (fun q12 => Option.bind (f_X8_readNumber q12 (1 : Int32) (100 : Int32) q11) (fun q13 => Option.bind (f_X8_setupAt x1 x2 (3 : Int32) q13) (fun q14 => Option.bind (f_X8_readNumber q14 (1 : Int32) (100 : Int32) q13) (fun q15 => some q15)))))))) else some q6)
set_option maxHeartbeats 4000000 in
set_option maxRecDepth 100000 in
theorem wj_X8_parseSetup_47 {p : Program} {l : Launch} {e : Env} {s : State} {m : MethodId} {args : Array Value} {below : List Frame} {meth : Method} {c : Code} {D : va_G} {cy : Nat → ClassId} {ad : Nat → Nat} {base : Nat} {x1 : Int32} {x2 : Int32} {y1 : Int32} {μ : gM} {o : gM} (h : j_X8_parseSetup_47 x1 x2 y1 μ = some o) (F : gF p s m meth c cX8_parseSetup RX8 3 none) (E : gEnv l D cy ad base s)  {H : Heap} {locs : List Loc} {ls : Array Slot} (hM : gW gFull D cy ad base μ H) (hS : va_S (gA base) s.heap H locs) (hl : lv_has ls 3 [(0, .ref (ad 60)), (1, .int x1), (2, .int x2)]) : W p l e ({ frames := 5, cells := 0, slots := 0, locals := 110 } : Room) s m args below meth c H locs 0 0 (MQ below (gQ none gFull D cy ad base o) args s 0 0 (gA base)) (F0 m 47 ls [.int y1, .ref (ad 60)]) := by
  obtain ⟨hx, hb, hml, hown, hlocks, hr⟩ := id F
  unfold j_X8_parseSetup_47 at h
  refine lv_bipush (v := (-15 : Int32)) hx hb dX8_parseSetup_47 (by decide) ?_
  obtain ⟨q6, hq6, h⟩ := gbind_e h
  refine g_callV (As := [.int y1, .int (-15 : Int32)]) (rest := []) hx hb (hml.trans hl.1.symm) hown E hM hS hy_X8_check kw_1409 (c_X8_check hq6) hk_60 dd_60 rfl rfl rfl (Nat.le_of_ble_eq_true rfl) ⟨Nat.le_of_ble_eq_true rfl, Nat.le_of_ble_eq_true rfl⟩ ⟨Nat.le_of_ble_eq_true rfl, Nat.le_of_ble_eq_true rfl⟩ dX8_parseSetup_49 (fun H locs hM hS => ?_)
  refine lv_aload_n hx hb dX8_parseSetup_52 rfl (lv_at hl 0 rfl) ?_
  refine gg_60_17 hx hb hown E hM hk_60 kw_1259 dX8_parseSetup_53 ?_
  refine lv_if_eq (tgt := 60) hx hb dX8_parseSetup_56 (by decide) (fun c7 => ?_) (fun c7 => ?_)
  · replace h := gif_t c7 h
    refine lv_aload_n hx hb dX8_parseSetup_60 rfl (lv_at hl 0 rfl) ?_
    refine lv_iload_n hx hb dX8_parseSetup_61 rfl (lv_at hl 1 rfl) ?_
    refine lv_iload_n hx hb dX8_parseSetup_62 rfl (lv_at hl 2 rfl) ?_
    refine lv_iconst (v := (0 : Int32)) hx hb dX8_parseSetup_63 (by decide) ?_
    obtain ⟨q8, hq8, h⟩ := gbind_e h
    refine g_callS (As := [.int x1, .int x2, .int (0 : Int32)]) (rest := [.ref (ad 60)]) hx hb (hml.trans hl.1.symm) hown E hM hS hy_X8_setupAt kw_1464 (c_X8_setupAt hq8) rfl rfl (Nat.le_of_ble_eq_true rfl) ⟨Nat.le_of_ble_eq_true rfl, Nat.le_of_ble_eq_true rfl⟩ ⟨Nat.le_of_ble_eq_true rfl, Nat.le_of_ble_eq_true rfl⟩ dX8_parseSetup_64 (fun H locs hM hS => ?_)
    refine lv_iconst (v := (0 : Int32)) hx hb dX8_parseSetup_67 (by decide) ?_
    refine lv_ldc hx hb hown (v := (40000 : Int32)) (E.kw kw_1463) dX8_parseSetup_68 ?_
    obtain ⟨q9, hq9, h⟩ := gbind_e h
    refine g_callV (As := [.int q8, .int (0 : Int32), .int (40000 : Int32)]) (rest := []) hx hb (hml.trans hl.1.symm) hown E hM hS hy_X8_readNumber kw_1467 (c_X8_readNumber hq9) hk_60 dd_60 rfl rfl rfl (Nat.le_of_ble_eq_true rfl) ⟨Nat.le_of_ble_eq_true rfl, Nat.le_of_ble_eq_true rfl⟩ ⟨Nat.le_of_ble_eq_true rfl, Nat.le_of_ble_eq_true rfl⟩ dX8_parseSetup_70 (fun H locs hM hS => ?_)
    refine lv_aload_n hx hb dX8_parseSetup_73 rfl (lv_at hl 0 rfl) ?_
    refine lv_iload_n hx hb dX8_parseSetup_74 rfl (lv_at hl 1 rfl) ?_
    refine lv_iload_n hx hb dX8_parseSetup_75 rfl (lv_at hl 2 rfl) ?_
    refine lv_iconst (v := (1 : Int32)) hx hb dX8_parseSetup_76 (by decide) ?_
    obtain ⟨q10, hq10, h⟩ := gbind_e h
    refine g_callS (As := [.int x1, .int x2, .int (1 : Int32)]) (rest := [.ref (ad 60)]) hx hb (hml.trans hl.1.symm) hown E hM hS hy_X8_setupAt kw_1464 (c_X8_setupAt hq10) rfl rfl (Nat.le_of_ble_eq_true rfl) ⟨Nat.le_of_ble_eq_true rfl, Nat.le_of_ble_eq_true rfl⟩ ⟨Nat.le_of_ble_eq_true rfl, Nat.le_of_ble_eq_true rfl⟩ dX8_parseSetup_77 (fun H locs hM hS => ?_)
    refine lv_iconst (v := (0 : Int32)) hx hb dX8_parseSetup_80 (by decide) ?_
    refine lv_ldc hx hb hown (v := (40000 : Int32)) (E.kw kw_1463) dX8_parseSetup_81 ?_
    obtain ⟨q11, hq11, h⟩ := gbind_e h
    refine g_callV (As := [.int q10, .int (0 : Int32), .int (40000 : Int32)]) (rest := []) hx hb (hml.trans hl.1.symm) hown E hM hS hy_X8_readNumber kw_1467 (c_X8_readNumber hq11) hk_60 dd_60 rfl rfl rfl (Nat.le_of_ble_eq_true rfl) ⟨Nat.le_of_ble_eq_true rfl, Nat.le_of_ble_eq_true rfl⟩ ⟨Nat.le_of_ble_eq_true rfl, Nat.le_of_ble_eq_true rfl⟩ dX8_parseSetup_83 (fun H locs hM hS => ?_)
    refine lv_aload_n hx hb dX8_parseSetup_86 rfl (lv_at hl 0 rfl) ?_
    refine lv_iload_n hx hb dX8_parseSetup_87 rfl (lv_at hl 1 rfl) ?_
    refine lv_iload_n hx hb dX8_parseSetup_88 rfl (lv_at hl 2 rfl) ?_
    refine lv_iconst (v := (2 : Int32)) hx hb dX8_parseSetup_89 (by decide) ?_
    obtain ⟨q12, hq12, h⟩ := gbind_e h
    refine g_callS (As := [.int x1, .int x2, .int (2 : Int32)]) (rest := [.ref (ad 60)]) hx hb (hml.trans hl.1.symm) hown E hM hS hy_X8_setupAt kw_1464 (c_X8_setupAt hq12) rfl rfl (Nat.le_of_ble_eq_true rfl) ⟨Nat.le_of_ble_eq_true rfl, Nat.le_of_ble_eq_true rfl⟩ ⟨Nat.le_of_ble_eq_true rfl, Nat.le_of_ble_eq_true rfl⟩ dX8_parseSetup_90 (fun H locs hM hS => ?_)
    refine lv_iconst (v := (1 : Int32)) hx hb dX8_parseSetup_93 (by decide) ?_
    refine lv_bipush (v := (100 : Int32)) hx hb dX8_parseSetup_94 (by decide) ?_
    obtain ⟨q13, hq13, h⟩ := gbind_e h
    refine g_callV (As := [.int q12, .int (1 : Int32), .int (100 : Int32)]) (rest := []) hx hb (hml.trans hl.1.symm) hown E hM hS hy_X8_readNumber kw_1467 (c_X8_readNumber hq13) hk_60 dd_60 rfl rfl rfl (Nat.le_of_ble_eq_true rfl) ⟨Nat.le_of_ble_eq_true rfl, Nat.le_of_ble_eq_true rfl⟩ ⟨Nat.le_of_ble_eq_true rfl, Nat.le_of_ble_eq_true rfl⟩ dX8_parseSetup_96 (fun H locs hM hS => ?_)
    refine lv_aload_n hx hb dX8_parseSetup_99 rfl (lv_at hl 0 rfl) ?_
    refine lv_iload_n hx hb dX8_parseSetup_100 rfl (lv_at hl 1 rfl) ?_
    refine lv_iload_n hx hb dX8_parseSetup_101 rfl (lv_at hl 2 rfl) ?_
    refine lv_iconst (v := (3 : Int32)) hx hb dX8_parseSetup_102 (by decide) ?_
    obtain ⟨q14, hq14, h⟩ := gbind_e h
    refine g_callS (As := [.int x1, .int x2, .int (3 : Int32)]) (rest := [.ref (ad 60)]) hx hb (hml.trans hl.1.symm) hown E hM hS hy_X8_setupAt kw_1464 (c_X8_setupAt hq14) rfl rfl (Nat.le_of_ble_eq_true rfl) ⟨Nat.le_of_ble_eq_true rfl, Nat.le_of_ble_eq_true rfl⟩ ⟨Nat.le_of_ble_eq_true rfl, Nat.le_of_ble_eq_true rfl⟩ dX8_parseSetup_103 (fun H locs hM hS => ?_)
    refine lv_iconst (v := (1 : Int32)) hx hb dX8_parseSetup_106 (by decide) ?_
    refine lv_bipush (v := (100 : Int32)) hx hb dX8_parseSetup_107 (by decide) ?_
    obtain ⟨q15, hq15, h⟩ := gbind_e h
    refine g_callV (As := [.int q14, .int (1 : Int32), .int (100 : Int32)]) (rest := []) hx hb (hml.trans hl.1.symm) hown E hM hS hy_X8_readNumber kw_1467 (c_X8_readNumber hq15) hk_60 dd_60 rfl rfl rfl (Nat.le_of_ble_eq_true rfl) ⟨Nat.le_of_ble_eq_true rfl, Nat.le_of_ble_eq_true rfl⟩ ⟨Nat.le_of_ble_eq_true rfl, Nat.le_of_ble_eq_true rfl⟩ dX8_parseSetup_109 (fun H locs hM hS => ?_)
    obtain rfl := Option.some.inj h
    exact g_vret hx hb hr hlocks hM hS dX8_parseSetup_112
  · replace h := gif_f c7 h
    obtain rfl := Option.some.inj h
    exact g_vret hx hb hr hlocks hM hS dX8_parseSetup_59
def j_X8_parseSetup_14 (x1 : Int32) (x2 : Int32) (y1 : Int32) (μ : gM) : Option (gM) :=
  Option.bind (f_X8_check y1 (-11 : Int32) μ) (fun q2 => Option.bind (f_X8_inRange (gi q2 60 16) (0 : Int32) (40000 : Int32) q2) (fun q3 => Option.bind (f_X8_check (b2i q3) (-12 : Int32) q2) (fun q4 => if ((8 : Int32) ≤ x2) then j_X8_parseSetup_47 x1 x2 (0 : Int32) q4 else j_X8_parseSetup_47 x1 x2 (1 : Int32) q4)))
set_option maxHeartbeats 4000000 in
set_option maxRecDepth 100000 in
theorem wj_X8_parseSetup_14 {p : Program} {l : Launch} {e : Env} {s : State} {m : MethodId} {args : Array Value} {below : List Frame} {meth : Method} {c : Code} {D : va_G} {cy : Nat → ClassId} {ad : Nat → Nat} {base : Nat} {x1 : Int32} {x2 : Int32} {y1 : Int32} {μ : gM} {o : gM} (h : j_X8_parseSetup_14 x1 x2 y1 μ = some o) (F : gF p s m meth c cX8_parseSetup RX8 3 none) (E : gEnv l D cy ad base s)  {H : Heap} {locs : List Loc} {ls : Array Slot} (hM : gW gFull D cy ad base μ H) (hS : va_S (gA base) s.heap H locs) (hl : lv_has ls 3 [(0, .ref (ad 60)), (1, .int x1), (2, .int x2)]) : W p l e ({ frames := 5, cells := 0, slots := 0, locals := 110 } : Room) s m args below meth c H locs 0 0 (MQ below (gQ none gFull D cy ad base o) args s 0 0 (gA base)) (F0 m 14 ls [.int y1, .ref (ad 60)]) := by
  obtain ⟨hx, hb, hml, hown, hlocks, hr⟩ := id F
  unfold j_X8_parseSetup_14 at h
  refine lv_bipush (v := (-11 : Int32)) hx hb dX8_parseSetup_14 (by decide) ?_
  obtain ⟨q2, hq2, h⟩ := gbind_e h
  refine g_callV (As := [.int y1, .int (-11 : Int32)]) (rest := []) hx hb (hml.trans hl.1.symm) hown E hM hS hy_X8_check kw_1409 (c_X8_check hq2) hk_60 dd_60 rfl rfl rfl (Nat.le_of_ble_eq_true rfl) ⟨Nat.le_of_ble_eq_true rfl, Nat.le_of_ble_eq_true rfl⟩ ⟨Nat.le_of_ble_eq_true rfl, Nat.le_of_ble_eq_true rfl⟩ dX8_parseSetup_16 (fun H locs hM hS => ?_)
  refine lv_aload_n hx hb dX8_parseSetup_19 rfl (lv_at hl 0 rfl) ?_
  refine lv_aload_n hx hb dX8_parseSetup_20 rfl (lv_at hl 0 rfl) ?_
  refine gg_60_16 hx hb hown E hM hk_60 kw_1258 dX8_parseSetup_21 ?_
  refine lv_iconst (v := (0 : Int32)) hx hb dX8_parseSetup_24 (by decide) ?_
  refine lv_ldc hx hb hown (v := (40000 : Int32)) (E.kw kw_1463) dX8_parseSetup_25 ?_
  obtain ⟨q3, hq3, h⟩ := gbind_e h
  refine g_callS (As := [.int (gi q2 60 16), .int (0 : Int32), .int (40000 : Int32)]) (rest := [.ref (ad 60)]) hx hb (hml.trans hl.1.symm) hown E hM hS hy_X8_inRange kw_1379 (c_X8_inRange hq3) rfl rfl (Nat.le_of_ble_eq_true rfl) ⟨Nat.le_of_ble_eq_true rfl, Nat.le_of_ble_eq_true rfl⟩ ⟨Nat.le_of_ble_eq_true rfl, Nat.le_of_ble_eq_true rfl⟩ dX8_parseSetup_27 (fun H locs hM hS => ?_)
  refine lv_bipush (v := (-12 : Int32)) hx hb dX8_parseSetup_30 (by decide) ?_
  obtain ⟨q4, hq4, h⟩ := gbind_e h
  refine g_callV (As := [.int (b2i q3), .int (-12 : Int32)]) (rest := []) hx hb (hml.trans hl.1.symm) hown E hM hS hy_X8_check kw_1409 (c_X8_check hq4) hk_60 dd_60 rfl rfl rfl (Nat.le_of_ble_eq_true rfl) ⟨Nat.le_of_ble_eq_true rfl, Nat.le_of_ble_eq_true rfl⟩ ⟨Nat.le_of_ble_eq_true rfl, Nat.le_of_ble_eq_true rfl⟩ dX8_parseSetup_32 (fun H locs hM hS => ?_)
  refine lv_aload_n hx hb dX8_parseSetup_35 rfl (lv_at hl 0 rfl) ?_
  refine lv_iload_n hx hb dX8_parseSetup_36 rfl (lv_at hl 2 rfl) ?_
  refine lv_bipush (v := (8 : Int32)) hx hb dX8_parseSetup_37 (by decide) ?_
  refine lv_icmp_ge (tgt := 46) hx hb dX8_parseSetup_39 (by decide) (fun c5 => ?_) (fun c5 => ?_)
  · replace h := gif_t c5 h
    refine lv_iconst (v := (0 : Int32)) hx hb dX8_parseSetup_46 (by decide) ?_
    exact wj_X8_parseSetup_47 h F E hM hS hl
  · replace h := gif_f c5 h
    refine lv_iconst (v := (1 : Int32)) hx hb dX8_parseSetup_42 (by decide) ?_
    refine lv_goto (tgt := 47) hx hb dX8_parseSetup_43 (by decide) ?_
    exact wj_X8_parseSetup_47 h F E hM hS hl
def f_X8_parseSetup (p1 : Int32) (p2 : Int32) (μ : gM) : Option (gM) :=
  if ((gi μ 60 14) = (2 : Int32)) then j_X8_parseSetup_14 p1 p2 (1 : Int32) μ else j_X8_parseSetup_14 p1 p2 (0 : Int32) μ
set_option maxHeartbeats 4000000 in
set_option maxRecDepth 100000 in
theorem c_X8_parseSetup {l : Launch} {D : va_G} {cy : Nat → ClassId} {ad : Nat → Nat} {base : Nat} {p1 : Int32} {p2 : Int32} {μ : gM} {RES : gM} (h : f_X8_parseSetup p1 p2 μ = some RES) : Met l yX8_parseSetup [.code yX8_parseSetup cX8_parseSetup 3 none] ({ frames := 5, cells := 0, slots := 0, locals := 110 } : Room) (va_Pc [.ref (ad 60), .int p1, .int p2] (gB l gFull D cy ad base μ)) (gQ none gFull D cy ad base RES) 0 0 (gA base) := by
  refine Met.ofW (cc := cX8_parseSetup) (maxL := 3) (ret := none) (by decide) rfl ?_
  intro p e s m args below meth c s₁ B hml0 hv
  obtain ⟨rfl, E, hM⟩ := hv
  have F : gF p s m meth c cX8_parseSetup RX8 3 none := gF_of B hml0
  obtain ⟨hx, hb, hml, hown, hlocks, hr⟩ := id F
  have hS : va_S (gA base) s.heap s.heap [] := va_S.rf
  have hl := lv_entry ([.ref (ad 60), .int p1, .int p2]) (n := 3) (Nat.le_of_ble_eq_true rfl)
  rw [lg_entry_eq]
  generalize (lg_sl ([.ref (ad 60), .int p1, .int p2]) ++ List.replicate (3 - (lg_sl ([.ref (ad 60), .int p1, .int p2])).length) Slot.unset).toArray = ls at hl ⊢
  have hl : lv_has ls 3 [(0, .ref (ad 60)), (1, .int p1), (2, .int p2)] := hl
  unfold f_X8_parseSetup at h
  refine lv_aload_n hx hb dX8_parseSetup_0 rfl (lv_at hl 0 rfl) ?_
  refine lv_aload_n hx hb dX8_parseSetup_1 rfl (lv_at hl 0 rfl) ?_
  refine gg_60_14 hx hb hown E hM hk_60 kw_1256 dX8_parseSetup_2 ?_
  refine lv_iconst (v := (2 : Int32)) hx hb dX8_parseSetup_5 (by decide) ?_
  refine lv_icmp_ne (tgt := 13) hx hb dX8_parseSetup_6 (by decide) (fun c1 => ?_) (fun c1 => ?_)
  · replace h := gif_f c1 h
    refine lv_iconst (v := (0 : Int32)) hx hb dX8_parseSetup_13 (by decide) ?_
    exact wj_X8_parseSetup_14 h F E hM hS hl
  · replace h := gif_t c1 h
    refine lv_iconst (v := (1 : Int32)) hx hb dX8_parseSetup_9 (by decide) ?_
    refine lv_goto (tgt := 14) hx hb dX8_parseSetup_10 (by decide) ?_
    exact wj_X8_parseSetup_14 h F E hM hS hl
def b_X8_parseLine_50 (x1 : Int32) (x2 : Int32) (x3 : Int32) (x4 : Int32) (x5 : Int32) (μ : gM) : Option ((Int32 × gM) ⊕ (Int32 × gM)) :=
  if ((gi μ 60 17) = 0) then if (x5 = 0) then Option.bind (f_X8_parseSetup x1 x5 μ) (fun q10 => some (.inl ((x5 + (1 : Int32)), q10))) else if ((gi μ 60 14) = (3 : Int32)) then some (.inr (x5, μ)) else Option.bind (f_X8_parseSetup x1 x5 μ) (fun q12 => some (.inl ((x5 + (1 : Int32)), q12))) else some (.inr (x5, μ))
set_option maxHeartbeats 4000000 in
set_option maxRecDepth 100000 in
theorem wb_X8_parseLine_50 {p : Program} {l : Launch} {e : Env} {s : State} {m : MethodId} {args : Array Value} {below : List Frame} {meth : Method} {c : Code} {D : va_G} {cy : Nat → ClassId} {ad : Nat → Nat} {base : Nat} {x1 : Int32} {x2 : Int32} {x3 : Int32} {x4 : Int32} {x5 : Int32} {μ : gM} {o : (Int32 × gM) ⊕ (Int32 × gM)} {RES : gM} (h : b_X8_parseLine_50 x1 x2 x3 x4 x5 μ = some o) (F : gF p s m meth c cX8_parseLine RX8 6 none) (E : gEnv l D cy ad base s) (kc : ∀ (t : Int32 × gM) {H : Heap} {locs : List Loc} {ls : Array Slot}, o = .inl t → gW gFull D cy ad base t.2 H → va_S (gA base) s.heap H locs → lv_has ls 6 [(0, .ref (ad 60)), (1, .int x1), (2, .int x2), (3, .int x3), (4, .int x4), (5, .int t.1)] → W p l e ({ frames := 6, cells := 0, slots := 0, locals := 132 } : Room) s m args below meth c H locs 0 0 (MQ below (gQ none gFull D cy ad base RES) args s 0 0 (gA base)) (F0 m 50 ls [])) (kx : ∀ (t : Int32 × gM) {H : Heap} {locs : List Loc} {ls : Array Slot}, o = .inr t → gW gFull D cy ad base t.2 H → va_S (gA base) s.heap H locs → lv_has ls 6 [(0, .ref (ad 60)), (1, .int x1), (2, .int x2), (3, .int x3), (4, .int x4), (5, .int t.1)] → W p l e ({ frames := 6, cells := 0, slots := 0, locals := 132 } : Room) s m args below meth c H locs 0 0 (MQ below (gQ none gFull D cy ad base RES) args s 0 0 (gA base)) (F0 m 83 ls []))  {H : Heap} {locs : List Loc} {ls : Array Slot} (hM : gW gFull D cy ad base μ H) (hS : va_S (gA base) s.heap H locs) (hl : lv_has ls 6 [(0, .ref (ad 60)), (1, .int x1), (2, .int x2), (3, .int x3), (4, .int x4), (5, .int x5)]) : W p l e ({ frames := 6, cells := 0, slots := 0, locals := 132 } : Room) s m args below meth c H locs 0 0 (MQ below (gQ none gFull D cy ad base RES) args s 0 0 (gA base)) (F0 m 50 ls []) := by
  obtain ⟨hx, hb, hml, hown, hlocks, hr⟩ := id F
  unfold b_X8_parseLine_50 at h
  refine lv_aload_n hx hb dX8_parseLine_50 rfl (lv_at hl 0 rfl) ?_
  refine gg_60_17 hx hb hown E hM hk_60 kw_1259 dX8_parseLine_51 ?_
  refine lv_if_ne (tgt := 83) hx hb dX8_parseLine_54 (by decide) (fun c8 => ?_) (fun c8 => ?_)
  · replace h := gif_f c8 h
    exact kx _ (Option.some.inj h).symm hM hS hl
  · replace h := gif_t c8 h
    refine lv_iload hx hb dX8_parseLine_57 (lv_at hl 5 rfl) ?_
    refine lv_if_eq (tgt := 70) hx hb dX8_parseLine_59 (by decide) (fun c9 => ?_) (fun c9 => ?_)
    · replace h := gif_t c9 h
      refine lv_aload_n hx hb dX8_parseLine_70 rfl (lv_at hl 0 rfl) ?_
      refine lv_iload_n hx hb dX8_parseLine_71 rfl (lv_at hl 1 rfl) ?_
      refine lv_iload hx hb dX8_parseLine_72 (lv_at hl 5 rfl) ?_
      obtain ⟨q10, hq10, h⟩ := gbind_e h
      refine g_callV (As := [.int x1, .int x5]) (rest := []) hx hb (hml.trans hl.1.symm) hown E hM hS hy_X8_parseSetup kw_1459 (c_X8_parseSetup hq10) hk_60 dd_60 rfl rfl rfl (Nat.le_of_ble_eq_true rfl) ⟨Nat.le_of_ble_eq_true rfl, Nat.le_of_ble_eq_true rfl⟩ ⟨Nat.le_of_ble_eq_true rfl, Nat.le_of_ble_eq_true rfl⟩ dX8_parseLine_74 (fun H locs hM hS => ?_)
      refine lv_iinc (v := (x5 + (1 : Int32))) (lv' := [(5, .int (x5 + (1 : Int32))), (0, .ref (ad 60)), (1, .int x1), (2, .int x2), (3, .int x3), (4, .int x4)]) hx hb dX8_parseLine_77 hl (k := 5) rfl rfl (by decide) rfl (fun ls hl => ?_)
      refine lv_goto (tgt := 50) hx hb dX8_parseLine_80 (by decide) ?_
      exact kc _ (Option.some.inj h).symm hM hS (lv_sub hl [1, 2, 3, 4, 5, 0] rfl)
    · replace h := gif_f c9 h
      refine lv_aload_n hx hb dX8_parseLine_62 rfl (lv_at hl 0 rfl) ?_
      refine gg_60_14 hx hb hown E hM hk_60 kw_1256 dX8_parseLine_63 ?_
      refine lv_iconst (v := (3 : Int32)) hx hb dX8_parseLine_66 (by decide) ?_
      refine lv_icmp_eq (tgt := 83) hx hb dX8_parseLine_67 (by decide) (fun c11 => ?_) (fun c11 => ?_)
      · replace h := gif_t c11 h
        exact kx _ (Option.some.inj h).symm hM hS hl
      · replace h := gif_f c11 h
        refine lv_aload_n hx hb dX8_parseLine_70 rfl (lv_at hl 0 rfl) ?_
        refine lv_iload_n hx hb dX8_parseLine_71 rfl (lv_at hl 1 rfl) ?_
        refine lv_iload hx hb dX8_parseLine_72 (lv_at hl 5 rfl) ?_
        obtain ⟨q12, hq12, h⟩ := gbind_e h
        refine g_callV (As := [.int x1, .int x5]) (rest := []) hx hb (hml.trans hl.1.symm) hown E hM hS hy_X8_parseSetup kw_1459 (c_X8_parseSetup hq12) hk_60 dd_60 rfl rfl rfl (Nat.le_of_ble_eq_true rfl) ⟨Nat.le_of_ble_eq_true rfl, Nat.le_of_ble_eq_true rfl⟩ ⟨Nat.le_of_ble_eq_true rfl, Nat.le_of_ble_eq_true rfl⟩ dX8_parseLine_74 (fun H locs hM hS => ?_)
        refine lv_iinc (v := (x5 + (1 : Int32))) (lv' := [(5, .int (x5 + (1 : Int32))), (0, .ref (ad 60)), (1, .int x1), (2, .int x2), (3, .int x3), (4, .int x4)]) hx hb dX8_parseLine_77 hl (k := 5) rfl rfl (by decide) rfl (fun ls hl => ?_)
        refine lv_goto (tgt := 50) hx hb dX8_parseLine_80 (by decide) ?_
        exact kc _ (Option.some.inj h).symm hM hS (lv_sub hl [1, 2, 3, 4, 5, 0] rfl)
set_option maxHeartbeats 4000000 in
theorem wl_X8_parseLine_50 {p : Program} {l : Launch} {e : Env} {s : State} {m : MethodId} {args : Array Value} {below : List Frame} {meth : Method} {c : Code} {D : va_G} {cy : Nat → ClassId} {ad : Nat → Nat} {base : Nat} {x1 : Int32} {x2 : Int32} {x3 : Int32} {x4 : Int32} {r : Int32 × gM} {RES : gM} (F : gF p s m meth c cX8_parseLine RX8 6 none) (E : gEnv l D cy ad base s) (kx : ∀ (t : Int32 × gM) {H : Heap} {locs : List Loc} {ls : Array Slot}, r = t → gW gFull D cy ad base t.2 H → va_S (gA base) s.heap H locs → lv_has ls 6 [(0, .ref (ad 60)), (1, .int x1), (2, .int x2), (3, .int x3), (4, .int x4), (5, .int t.1)] → W p l e ({ frames := 6, cells := 0, slots := 0, locals := 132 } : Room) s m args below meth c H locs 0 0 (MQ below (gQ none gFull D cy ad base RES) args s 0 0 (gA base)) (F0 m 83 ls []))  : ∀ (n : Nat) (x5 : Int32) (μ : gM), gloop (fun t => b_X8_parseLine_50 x1 x2 x3 x4 t.1 t.2) n (x5, μ) = some r → ∀ {H : Heap} {locs : List Loc} {ls : Array Slot}, gW gFull D cy ad base μ H → va_S (gA base) s.heap H locs → lv_has ls 6 [(0, .ref (ad 60)), (1, .int x1), (2, .int x2), (3, .int x3), (4, .int x4), (5, .int x5)] → W p l e ({ frames := 6, cells := 0, slots := 0, locals := 132 } : Room) s m args below meth c H locs 0 0 (MQ below (gQ none gFull D cy ad base RES) args s 0 0 (gA base)) (F0 m 50 ls []) := by
  intro n
  induction n with
  | zero =>
    intro x5 μ h
    exact (gloop_0 h).elim
  | succ n ih =>
    intro x5 μ h H locs ls hM hS hl
    obtain ⟨o, h0, hc, hq⟩ := gloop_s h
    have h1 : b_X8_parseLine_50 x1 x2 x3 x4 x5 μ = some o := h0
    exact wb_X8_parseLine_50 h1 F E (fun t H locs ls ho hM hS hl => ih t.1 t.2 (hc t ho) hM hS hl) (fun t H locs ls ho hM hS hl => kx t (hq _ ho).symm hM hS hl) hM hS hl
def j_X8_parseLine_83 (x1 : Int32) (x2 : Int32) (x3 : Int32) (x4 : Int32) (x5 : Int32) (μ : gM) : Option (gM) :=
  if ((gi μ 60 17) = 0) then gchk (gIn ((4 : Int32) + x1) 137) (gchk (gIn ((24 : Int32) + x1) 137) (gchk (gIn ((44 : Int32) + x1) 137) (gchk (gIn ((22 : Int32) + x1) 703) (gchk (gIn ((42 : Int32) + x1) 703) (gchk (gIn (2 : Int32) 137) (gchk (gIn (2 : Int32) 137) (some (si (si (si (si (si (si μ 67 ((4 : Int32) + x1).toNatClampNeg x2) 67 ((24 : Int32) + x1).toNatClampNeg x3) 67 ((44 : Int32) + x1).toNatClampNeg x4) 62 ((22 : Int32) + x1).toNatClampNeg (1 : Int32)) 62 ((42 : Int32) + x1).toNatClampNeg x5) 67 (2 : Int32).toNatClampNeg ((gi (si (si (si (si (si μ 67 ((4 : Int32) + x1).toNatClampNeg x2) 67 ((24 : Int32) + x1).toNatClampNeg x3) 67 ((44 : Int32) + x1).toNatClampNeg x4) 62 ((22 : Int32) + x1).toNatClampNeg (1 : Int32)) 62 ((42 : Int32) + x1).toNatClampNeg x5) 67 (2 : Int32).toNatClampNeg) + (1 : Int32)))))))))) else some μ
set_option maxHeartbeats 4000000 in
set_option maxRecDepth 100000 in
theorem wj_X8_parseLine_83 {p : Program} {l : Launch} {e : Env} {s : State} {m : MethodId} {args : Array Value} {below : List Frame} {meth : Method} {c : Code} {D : va_G} {cy : Nat → ClassId} {ad : Nat → Nat} {base : Nat} {x1 : Int32} {x2 : Int32} {x3 : Int32} {x4 : Int32} {x5 : Int32} {μ : gM} {o : gM} (h : j_X8_parseLine_83 x1 x2 x3 x4 x5 μ = some o) (F : gF p s m meth c cX8_parseLine RX8 6 none) (E : gEnv l D cy ad base s)  {H : Heap} {locs : List Loc} {ls : Array Slot} (hM : gW gFull D cy ad base μ H) (hS : va_S (gA base) s.heap H locs) (hl : lv_has ls 6 [(0, .ref (ad 60)), (1, .int x1), (2, .int x2), (3, .int x3), (4, .int x4), (5, .int x5)]) : W p l e ({ frames := 6, cells := 0, slots := 0, locals := 132 } : Room) s m args below meth c H locs 0 0 (MQ below (gQ none gFull D cy ad base o) args s 0 0 (gA base)) (F0 m 83 ls []) := by
  obtain ⟨hx, hb, hml, hown, hlocks, hr⟩ := id F
  unfold j_X8_parseLine_83 at h
  refine lv_aload_n hx hb dX8_parseLine_83 rfl (lv_at hl 0 rfl) ?_
  refine gg_60_17 hx hb hown E hM hk_60 kw_1259 dX8_parseLine_84 ?_
  refine lv_if_eq (tgt := 91) hx hb dX8_parseLine_87 (by decide) (fun c14 => ?_) (fun c14 => ?_)
  · replace h := gif_t c14 h
    refine lv_aload_n hx hb dX8_parseLine_91 rfl (lv_at hl 0 rfl) ?_
    refine gg_60_8 hx hb hown E hM hk_60 kw_1250 dX8_parseLine_92 ?_
    refine lv_iconst (v := (4 : Int32)) hx hb dX8_parseLine_95 (by decide) ?_
    refine lv_iload_n hx hb dX8_parseLine_96 rfl (lv_at hl 1 rfl) ?_
    refine lv_iadd hx hb dX8_parseLine_97 ?_
    refine lv_iload_n hx hb dX8_parseLine_98 rfl (lv_at hl 2 rfl) ?_
    obtain ⟨c15, h⟩ := gchk_e h
    refine g_iast hx hb E hM hS hk_67 dd_67 c15 dX8_parseLine_99 (fun H locs hM hS => ?_)
    refine lv_aload_n hx hb dX8_parseLine_100 rfl (lv_at hl 0 rfl) ?_
    refine gg_60_8 hx hb hown E hM hk_60 kw_1250 dX8_parseLine_101 ?_
    refine lv_bipush (v := (24 : Int32)) hx hb dX8_parseLine_104 (by decide) ?_
    refine lv_iload_n hx hb dX8_parseLine_106 rfl (lv_at hl 1 rfl) ?_
    refine lv_iadd hx hb dX8_parseLine_107 ?_
    refine lv_iload_n hx hb dX8_parseLine_108 rfl (lv_at hl 3 rfl) ?_
    obtain ⟨c16, h⟩ := gchk_e h
    refine g_iast hx hb E hM hS hk_67 dd_67 c16 dX8_parseLine_109 (fun H locs hM hS => ?_)
    refine lv_aload_n hx hb dX8_parseLine_110 rfl (lv_at hl 0 rfl) ?_
    refine gg_60_8 hx hb hown E hM hk_60 kw_1250 dX8_parseLine_111 ?_
    refine lv_bipush (v := (44 : Int32)) hx hb dX8_parseLine_114 (by decide) ?_
    refine lv_iload_n hx hb dX8_parseLine_116 rfl (lv_at hl 1 rfl) ?_
    refine lv_iadd hx hb dX8_parseLine_117 ?_
    refine lv_iload hx hb dX8_parseLine_118 (lv_at hl 4 rfl) ?_
    obtain ⟨c17, h⟩ := gchk_e h
    refine g_iast hx hb E hM hS hk_67 dd_67 c17 dX8_parseLine_120 (fun H locs hM hS => ?_)
    refine lv_aload_n hx hb dX8_parseLine_121 rfl (lv_at hl 0 rfl) ?_
    refine gg_60_1 hx hb hown E hM hk_60 kw_1243 dX8_parseLine_122 ?_
    refine lv_bipush (v := (22 : Int32)) hx hb dX8_parseLine_125 (by decide) ?_
    refine lv_iload_n hx hb dX8_parseLine_127 rfl (lv_at hl 1 rfl) ?_
    refine lv_iadd hx hb dX8_parseLine_128 ?_
    refine lv_iconst (v := (1 : Int32)) hx hb dX8_parseLine_129 (by decide) ?_
    obtain ⟨c18, h⟩ := gchk_e h
    refine g_iast hx hb E hM hS hk_62 dd_62 c18 dX8_parseLine_130 (fun H locs hM hS => ?_)
    refine lv_aload_n hx hb dX8_parseLine_131 rfl (lv_at hl 0 rfl) ?_
    refine gg_60_1 hx hb hown E hM hk_60 kw_1243 dX8_parseLine_132 ?_
    refine lv_bipush (v := (42 : Int32)) hx hb dX8_parseLine_135 (by decide) ?_
    refine lv_iload_n hx hb dX8_parseLine_137 rfl (lv_at hl 1 rfl) ?_
    refine lv_iadd hx hb dX8_parseLine_138 ?_
    refine lv_iload hx hb dX8_parseLine_139 (lv_at hl 5 rfl) ?_
    obtain ⟨c19, h⟩ := gchk_e h
    refine g_iast hx hb E hM hS hk_62 dd_62 c19 dX8_parseLine_141 (fun H locs hM hS => ?_)
    refine lv_aload_n hx hb dX8_parseLine_142 rfl (lv_at hl 0 rfl) ?_
    refine gg_60_8 hx hb hown E hM hk_60 kw_1250 dX8_parseLine_143 ?_
    refine lv_iconst (v := (2 : Int32)) hx hb dX8_parseLine_146 (by decide) ?_
    refine lv_dup2_11 hx hb dX8_parseLine_147 rfl rfl ?_
    obtain ⟨c20, h⟩ := gchk_e h
    refine g_iald hx hb E hM hk_67 dd_67 c20 dX8_parseLine_148 ?_
    refine lv_iconst (v := (1 : Int32)) hx hb dX8_parseLine_149 (by decide) ?_
    refine lv_iadd hx hb dX8_parseLine_150 ?_
    obtain ⟨c21, h⟩ := gchk_e h
    refine g_iast hx hb E hM hS hk_67 dd_67 c21 dX8_parseLine_151 (fun H locs hM hS => ?_)
    obtain rfl := Option.some.inj h
    exact g_vret hx hb hr hlocks hM hS dX8_parseLine_152
  · replace h := gif_f c14 h
    obtain rfl := Option.some.inj h
    exact g_vret hx hb hr hlocks hM hS dX8_parseLine_90
def j_X8_parseLine_31 (x1 : Int32) (x2 : Int32) (x3 : Int32) (y1 : Int32) (μ : gM) : Option (gM) :=
  Option.bind (f_X8_check y1 (-14 : Int32) μ) (fun q5 => Option.bind (f_X8_advanceIfGood  q5) (fun q6 => Option.bind (f_X8_readOldName (0 : Int32) q6) (fun q7 => Option.bind (gloop (fun t => b_X8_parseLine_50 x1 x2 x3 q7.1 t.1 t.2) gFuel ((0 : Int32), q7.2)) (fun q13 => j_X8_parseLine_83 x1 x2 x3 q7.1 q13.1 q13.2))))
set_option maxHeartbeats 4000000 in
set_option maxRecDepth 100000 in
theorem wj_X8_parseLine_31 {p : Program} {l : Launch} {e : Env} {s : State} {m : MethodId} {args : Array Value} {below : List Frame} {meth : Method} {c : Code} {D : va_G} {cy : Nat → ClassId} {ad : Nat → Nat} {base : Nat} {x1 : Int32} {x2 : Int32} {x3 : Int32} {y1 : Int32} {μ : gM} {o : gM} (h : j_X8_parseLine_31 x1 x2 x3 y1 μ = some o) (F : gF p s m meth c cX8_parseLine RX8 6 none) (E : gEnv l D cy ad base s)  {H : Heap} {locs : List Loc} {ls : Array Slot} (hM : gW gFull D cy ad base μ H) (hS : va_S (gA base) s.heap H locs) (hl : lv_has ls 6 [(0, .ref (ad 60)), (1, .int x1), (2, .int x2), (3, .int x3)]) : W p l e ({ frames := 6, cells := 0, slots := 0, locals := 132 } : Room) s m args below meth c H locs 0 0 (MQ below (gQ none gFull D cy ad base o) args s 0 0 (gA base)) (F0 m 31 ls [.int y1, .ref (ad 60)]) := by
  obtain ⟨hx, hb, hml, hown, hlocks, hr⟩ := id F
  unfold j_X8_parseLine_31 at h
  refine lv_bipush (v := (-14 : Int32)) hx hb dX8_parseLine_31 (by decide) ?_
  obtain ⟨q5, hq5, h⟩ := gbind_e h
  refine g_callV (As := [.int y1, .int (-14 : Int32)]) (rest := []) hx hb (hml.trans hl.1.symm) hown E hM hS hy_X8_check kw_1409 (c_X8_check hq5) hk_60 dd_60 rfl rfl rfl (Nat.le_of_ble_eq_true rfl) ⟨Nat.le_of_ble_eq_true rfl, Nat.le_of_ble_eq_true rfl⟩ ⟨Nat.le_of_ble_eq_true rfl, Nat.le_of_ble_eq_true rfl⟩ dX8_parseLine_33 (fun H locs hM hS => ?_)
  refine lv_aload_n hx hb dX8_parseLine_36 rfl (lv_at hl 0 rfl) ?_
  obtain ⟨q6, hq6, h⟩ := gbind_e h
  refine g_callV (As := []) (rest := []) hx hb (hml.trans hl.1.symm) hown E hM hS hy_X8_advanceIfGood kw_1413 (c_X8_advanceIfGood hq6) hk_60 dd_60 rfl rfl rfl (Nat.le_of_ble_eq_true rfl) ⟨Nat.le_of_ble_eq_true rfl, Nat.le_of_ble_eq_true rfl⟩ ⟨Nat.le_of_ble_eq_true rfl, Nat.le_of_ble_eq_true rfl⟩ dX8_parseLine_37 (fun H locs hM hS => ?_)
  refine lv_aload_n hx hb dX8_parseLine_40 rfl (lv_at hl 0 rfl) ?_
  refine lv_iconst (v := (0 : Int32)) hx hb dX8_parseLine_41 (by decide) ?_
  obtain ⟨q7, hq7, h⟩ := gbind_e h
  refine g_callV (As := [.int (0 : Int32)]) (rest := []) hx hb (hml.trans hl.1.symm) hown E hM hS hy_X8_readOldName kw_1451 (c_X8_readOldName hq7) hk_60 dd_60 rfl rfl rfl (Nat.le_of_ble_eq_true rfl) ⟨Nat.le_of_ble_eq_true rfl, Nat.le_of_ble_eq_true rfl⟩ ⟨Nat.le_of_ble_eq_true rfl, Nat.le_of_ble_eq_true rfl⟩ dX8_parseLine_42 (fun H locs hM hS => ?_)
  refine lv_istore (lv' := [(4, .int q7.1), (0, .ref (ad 60)), (1, .int x1), (2, .int x2), (3, .int x3)]) hx hb dX8_parseLine_45 hl (by decide) rfl (fun ls hl => ?_)
  refine lv_iconst (v := (0 : Int32)) hx hb dX8_parseLine_47 (by decide) ?_
  refine lv_istore (lv' := [(5, .int (0 : Int32)), (4, .int q7.1), (0, .ref (ad 60)), (1, .int x1), (2, .int x2), (3, .int x3)]) hx hb dX8_parseLine_48 hl (by decide) rfl (fun ls hl => ?_)
  obtain ⟨z22, h1, h⟩ := gbind_e h
  refine wl_X8_parseLine_50 F E (r := z22) (fun q13 H locs ls e1 hM hS hl => ?_) gFuel (0 : Int32) q7.2 h1 hM hS (lv_sub hl [2, 3, 4, 5, 1, 0] rfl)
  replace e1 : z22 = q13 := e1
  rw [e1] at h
  exact wj_X8_parseLine_83 h F E hM hS hl
def f_X8_parseLine (μ : gM) : Option (gM) :=
  Option.bind (f_X8_begin (2 : Int32) (20 : Int32) μ) (fun q1 => Option.bind (f_X8_readOldName (1 : Int32) q1.2) (fun q2 => Option.bind (f_X8_oldHere (1 : Int32) q2.2) (fun q3 => if (q3.1 = q2.1) then j_X8_parseLine_31 q1.1 q2.1 q3.1 (0 : Int32) q3.2 else j_X8_parseLine_31 q1.1 q2.1 q3.1 (1 : Int32) q3.2)))
set_option maxHeartbeats 4000000 in
set_option maxRecDepth 100000 in
theorem c_X8_parseLine {l : Launch} {D : va_G} {cy : Nat → ClassId} {ad : Nat → Nat} {base : Nat}  {μ : gM} {RES : gM} (h : f_X8_parseLine  μ = some RES) : Met l yX8_parseLine [.code yX8_parseLine cX8_parseLine 6 none] ({ frames := 6, cells := 0, slots := 0, locals := 132 } : Room) (va_Pc [.ref (ad 60)] (gB l gFull D cy ad base μ)) (gQ none gFull D cy ad base RES) 0 0 (gA base) := by
  refine Met.ofW (cc := cX8_parseLine) (maxL := 6) (ret := none) (by decide) rfl ?_
  intro p e s m args below meth c s₁ B hml0 hv
  obtain ⟨rfl, E, hM⟩ := hv
  have F : gF p s m meth c cX8_parseLine RX8 6 none := gF_of B hml0
  obtain ⟨hx, hb, hml, hown, hlocks, hr⟩ := id F
  have hS : va_S (gA base) s.heap s.heap [] := va_S.rf
  have hl := lv_entry ([.ref (ad 60)]) (n := 6) (Nat.le_of_ble_eq_true rfl)
  rw [lg_entry_eq]
  generalize (lg_sl ([.ref (ad 60)]) ++ List.replicate (6 - (lg_sl ([.ref (ad 60)])).length) Slot.unset).toArray = ls at hl ⊢
  have hl : lv_has ls 6 [(0, .ref (ad 60))] := hl
  unfold f_X8_parseLine at h
  refine lv_aload_n hx hb dX8_parseLine_0 rfl (lv_at hl 0 rfl) ?_
  refine lv_iconst (v := (2 : Int32)) hx hb dX8_parseLine_1 (by decide) ?_
  refine lv_bipush (v := (20 : Int32)) hx hb dX8_parseLine_2 (by decide) ?_
  obtain ⟨q1, hq1, h⟩ := gbind_e h
  refine g_callV (As := [.int (2 : Int32), .int (20 : Int32)]) (rest := []) hx hb (hml.trans hl.1.symm) hown E hM hS hy_X8_begin kw_1405 (c_X8_begin hq1) hk_60 dd_60 rfl rfl rfl (Nat.le_of_ble_eq_true rfl) ⟨Nat.le_of_ble_eq_true rfl, Nat.le_of_ble_eq_true rfl⟩ ⟨Nat.le_of_ble_eq_true rfl, Nat.le_of_ble_eq_true rfl⟩ dX8_parseLine_4 (fun H locs hM hS => ?_)
  refine lv_istore_n (lv' := [(1, .int q1.1), (0, .ref (ad 60))]) hx hb dX8_parseLine_7 rfl hl (by decide) rfl (fun ls hl => ?_)
  refine lv_aload_n hx hb dX8_parseLine_8 rfl (lv_at hl 1 rfl) ?_
  refine lv_iconst (v := (1 : Int32)) hx hb dX8_parseLine_9 (by decide) ?_
  obtain ⟨q2, hq2, h⟩ := gbind_e h
  refine g_callV (As := [.int (1 : Int32)]) (rest := []) hx hb (hml.trans hl.1.symm) hown E hM hS hy_X8_readOldName kw_1451 (c_X8_readOldName hq2) hk_60 dd_60 rfl rfl rfl (Nat.le_of_ble_eq_true rfl) ⟨Nat.le_of_ble_eq_true rfl, Nat.le_of_ble_eq_true rfl⟩ ⟨Nat.le_of_ble_eq_true rfl, Nat.le_of_ble_eq_true rfl⟩ dX8_parseLine_10 (fun H locs hM hS => ?_)
  refine lv_istore_n (lv' := [(2, .int q2.1), (1, .int q1.1), (0, .ref (ad 60))]) hx hb dX8_parseLine_13 rfl hl (by decide) rfl (fun ls hl => ?_)
  refine lv_aload_n hx hb dX8_parseLine_14 rfl (lv_at hl 2 rfl) ?_
  refine lv_iconst (v := (1 : Int32)) hx hb dX8_parseLine_15 (by decide) ?_
  obtain ⟨q3, hq3, h⟩ := gbind_e h
  refine g_callV (As := [.int (1 : Int32)]) (rest := []) hx hb (hml.trans hl.1.symm) hown E hM hS hy_X8_oldHere kw_1455 (c_X8_oldHere hq3) hk_60 dd_60 rfl rfl rfl (Nat.le_of_ble_eq_true rfl) ⟨Nat.le_of_ble_eq_true rfl, Nat.le_of_ble_eq_true rfl⟩ ⟨Nat.le_of_ble_eq_true rfl, Nat.le_of_ble_eq_true rfl⟩ dX8_parseLine_16 (fun H locs hM hS => ?_)
  refine lv_istore_n (lv' := [(3, .int q3.1), (2, .int q2.1), (1, .int q1.1), (0, .ref (ad 60))]) hx hb dX8_parseLine_19 rfl hl (by decide) rfl (fun ls hl => ?_)
  refine lv_aload_n hx hb dX8_parseLine_20 rfl (lv_at hl 3 rfl) ?_
  refine lv_iload_n hx hb dX8_parseLine_21 rfl (lv_at hl 0 rfl) ?_
  refine lv_iload_n hx hb dX8_parseLine_22 rfl (lv_at hl 1 rfl) ?_
  refine lv_icmp_eq (tgt := 30) hx hb dX8_parseLine_23 (by decide) (fun c4 => ?_) (fun c4 => ?_)
  · replace h := gif_t c4 h
    refine lv_iconst (v := (0 : Int32)) hx hb dX8_parseLine_30 (by decide) ?_
    exact wj_X8_parseLine_31 h F E hM hS (lv_sub hl [3, 2, 1, 0] rfl)
  · replace h := gif_f c4 h
    refine lv_iconst (v := (1 : Int32)) hx hb dX8_parseLine_26 (by decide) ?_
    refine lv_goto (tgt := 31) hx hb dX8_parseLine_27 (by decide) ?_
    exact wj_X8_parseLine_31 h F E hM hS (lv_sub hl [3, 2, 1, 0] rfl)
def j_X8_parseTest_95 (x3 : Int32) (x4 : Int32) (y1 : Int32) (y2 : Int32) (μ : gM) : Option ((Int32 × gM) ⊕ ((gM) ⊕ (gM))) :=
  Option.bind (f_X8_readInteger y1 y2 μ) (fun q10 => if ((gi q10.2 60 17) = 0) then gchk (gIn ((x3 + (1 : Int32)) + x4) 137) (some (.inl ((x4 + (1 : Int32)), (si q10.2 67 ((x3 + (1 : Int32)) + x4).toNatClampNeg q10.1)))) else some (.inr (.inr q10.2)))
set_option maxHeartbeats 4000000 in
set_option maxRecDepth 100000 in
theorem wj_X8_parseTest_95 {p : Program} {l : Launch} {e : Env} {s : State} {m : MethodId} {args : Array Value} {below : List Frame} {meth : Method} {c : Code} {D : va_G} {cy : Nat → ClassId} {ad : Nat → Nat} {base : Nat} {x3 : Int32} {x4 : Int32} {y1 : Int32} {y2 : Int32} {μ : gM} {o : (Int32 × gM) ⊕ ((gM) ⊕ (gM))} {RES : gM} (h : j_X8_parseTest_95 x3 x4 y1 y2 μ = some o) (F : gF p s m meth c cX8_parseTest RX8 7 none) (E : gEnv l D cy ad base s) (kc : ∀ (t : Int32 × gM) {H : Heap} {locs : List Loc} {ls : Array Slot}, o = .inl t → gW gFull D cy ad base t.2 H → va_S (gA base) s.heap H locs → lv_has ls 7 [(0, .ref (ad 60)), (3, .int x3), (4, .int t.1)] → W p l e ({ frames := 4, cells := 0, slots := 0, locals := 88 } : Room) s m args below meth c H locs 0 0 (MQ below (gQ none gFull D cy ad base RES) args s 0 0 (gA base)) (F0 m 50 ls [])) (kx : ∀ (t : gM) {H : Heap} {locs : List Loc} {ls : Array Slot}, o = .inr (.inl t) → gW gFull D cy ad base t H → va_S (gA base) s.heap H locs → lv_has ls 7 [(0, .ref (ad 60))] → W p l e ({ frames := 4, cells := 0, slots := 0, locals := 88 } : Room) s m args below meth c H locs 0 0 (MQ below (gQ none gFull D cy ad base RES) args s 0 0 (gA base)) (F0 m 127 ls [])) (kr : ∀ x : gM, o = .inr (.inr x) → x = RES) {H : Heap} {locs : List Loc} {ls : Array Slot} (hM : gW gFull D cy ad base μ H) (hS : va_S (gA base) s.heap H locs) (hl : lv_has ls 7 [(0, .ref (ad 60)), (3, .int x3), (4, .int x4)]) : W p l e ({ frames := 4, cells := 0, slots := 0, locals := 88 } : Room) s m args below meth c H locs 0 0 (MQ below (gQ none gFull D cy ad base RES) args s 0 0 (gA base)) (F0 m 95 ls [.int y2, .int y1, .ref (ad 60)]) := by
  obtain ⟨hx, hb, hml, hown, hlocks, hr⟩ := id F
  unfold j_X8_parseTest_95 at h
  obtain ⟨q10, hq10, h⟩ := gbind_e h
  refine g_callV (As := [.int y1, .int y2]) (rest := []) hx hb (hml.trans hl.1.symm) hown E hM hS hy_X8_readInteger kw_1438 (c_X8_readInteger hq10) hk_60 dd_60 rfl rfl rfl (Nat.le_of_ble_eq_true rfl) ⟨Nat.le_of_ble_eq_true rfl, Nat.le_of_ble_eq_true rfl⟩ ⟨Nat.le_of_ble_eq_true rfl, Nat.le_of_ble_eq_true rfl⟩ dX8_parseTest_95 (fun H locs hM hS => ?_)
  refine lv_istore (lv' := [(6, .int q10.1), (0, .ref (ad 60)), (3, .int x3), (4, .int x4)]) hx hb dX8_parseTest_98 hl (by decide) rfl (fun ls hl => ?_)
  refine lv_aload_n hx hb dX8_parseTest_100 rfl (lv_at hl 1 rfl) ?_
  refine gg_60_17 hx hb hown E hM hk_60 kw_1259 dX8_parseTest_101 ?_
  refine lv_if_eq (tgt := 108) hx hb dX8_parseTest_104 (by decide) (fun c11 => ?_) (fun c11 => ?_)
  · replace h := gif_t c11 h
    refine lv_aload_n hx hb dX8_parseTest_108 rfl (lv_at hl 1 rfl) ?_
    refine gg_60_8 hx hb hown E hM hk_60 kw_1250 dX8_parseTest_109 ?_
    refine lv_iload_n hx hb dX8_parseTest_112 rfl (lv_at hl 2 rfl) ?_
    refine lv_iconst (v := (1 : Int32)) hx hb dX8_parseTest_113 (by decide) ?_
    refine lv_iadd hx hb dX8_parseTest_114 ?_
    refine lv_iload hx hb dX8_parseTest_115 (lv_at hl 3 rfl) ?_
    refine lv_iadd hx hb dX8_parseTest_117 ?_
    refine lv_iload hx hb dX8_parseTest_118 (lv_at hl 0 rfl) ?_
    obtain ⟨c12, h⟩ := gchk_e h
    refine g_iast hx hb E hM hS hk_67 dd_67 c12 dX8_parseTest_120 (fun H locs hM hS => ?_)
    refine lv_iinc (v := (x4 + (1 : Int32))) (lv' := [(4, .int (x4 + (1 : Int32))), (6, .int q10.1), (0, .ref (ad 60)), (3, .int x3)]) hx hb dX8_parseTest_121 hl (k := 3) rfl rfl (by decide) rfl (fun ls hl => ?_)
    refine lv_goto (tgt := 50) hx hb dX8_parseTest_124 (by decide) ?_
    exact kc _ (Option.some.inj h).symm hM hS (lv_sub hl [2, 3, 0] rfl)
  · replace h := gif_f c11 h
    obtain rfl := kr _ (Option.some.inj h).symm
    exact g_vret hx hb hr hlocks hM hS dX8_parseTest_107
def j_X8_parseTest_83 (x3 : Int32) (x4 : Int32) (x5 : Int32) (y1 : Int32) (μ : gM) : Option ((Int32 × gM) ⊕ ((gM) ⊕ (gM))) :=
  if (x5 = 0) then j_X8_parseTest_95 x3 x4 y1 (100 : Int32) μ else j_X8_parseTest_95 x3 x4 y1 (40000 : Int32) μ
set_option maxHeartbeats 4000000 in
set_option maxRecDepth 100000 in
theorem wj_X8_parseTest_83 {p : Program} {l : Launch} {e : Env} {s : State} {m : MethodId} {args : Array Value} {below : List Frame} {meth : Method} {c : Code} {D : va_G} {cy : Nat → ClassId} {ad : Nat → Nat} {base : Nat} {x3 : Int32} {x4 : Int32} {x5 : Int32} {y1 : Int32} {μ : gM} {o : (Int32 × gM) ⊕ ((gM) ⊕ (gM))} {RES : gM} (h : j_X8_parseTest_83 x3 x4 x5 y1 μ = some o) (F : gF p s m meth c cX8_parseTest RX8 7 none) (E : gEnv l D cy ad base s) (kc : ∀ (t : Int32 × gM) {H : Heap} {locs : List Loc} {ls : Array Slot}, o = .inl t → gW gFull D cy ad base t.2 H → va_S (gA base) s.heap H locs → lv_has ls 7 [(0, .ref (ad 60)), (3, .int x3), (4, .int t.1)] → W p l e ({ frames := 4, cells := 0, slots := 0, locals := 88 } : Room) s m args below meth c H locs 0 0 (MQ below (gQ none gFull D cy ad base RES) args s 0 0 (gA base)) (F0 m 50 ls [])) (kx : ∀ (t : gM) {H : Heap} {locs : List Loc} {ls : Array Slot}, o = .inr (.inl t) → gW gFull D cy ad base t H → va_S (gA base) s.heap H locs → lv_has ls 7 [(0, .ref (ad 60))] → W p l e ({ frames := 4, cells := 0, slots := 0, locals := 88 } : Room) s m args below meth c H locs 0 0 (MQ below (gQ none gFull D cy ad base RES) args s 0 0 (gA base)) (F0 m 127 ls [])) (kr : ∀ x : gM, o = .inr (.inr x) → x = RES) {H : Heap} {locs : List Loc} {ls : Array Slot} (hM : gW gFull D cy ad base μ H) (hS : va_S (gA base) s.heap H locs) (hl : lv_has ls 7 [(0, .ref (ad 60)), (3, .int x3), (4, .int x4), (5, .int x5)]) : W p l e ({ frames := 4, cells := 0, slots := 0, locals := 88 } : Room) s m args below meth c H locs 0 0 (MQ below (gQ none gFull D cy ad base RES) args s 0 0 (gA base)) (F0 m 83 ls [.int y1, .ref (ad 60)]) := by
  obtain ⟨hx, hb, hml, hown, hlocks, hr⟩ := id F
  unfold j_X8_parseTest_83 at h
  refine lv_iload hx hb dX8_parseTest_83 (lv_at hl 3 rfl) ?_
  refine lv_if_eq (tgt := 93) hx hb dX8_parseTest_85 (by decide) (fun c9 => ?_) (fun c9 => ?_)
  · replace h := gif_t c9 h
    refine lv_bipush (v := (100 : Int32)) hx hb dX8_parseTest_93 (by decide) ?_
    exact wj_X8_parseTest_95 h F E kc kx kr hM hS (lv_sub hl [0, 1, 2] rfl)
  · replace h := gif_f c9 h
    refine lv_ldc hx hb hown (v := (40000 : Int32)) (E.kw kw_1463) dX8_parseTest_88 ?_
    refine lv_goto (tgt := 95) hx hb dX8_parseTest_90 (by decide) ?_
    exact wj_X8_parseTest_95 h F E kc kx kr hM hS (lv_sub hl [0, 1, 2] rfl)
def j_X8_parseTest_70 (x3 : Int32) (x4 : Int32) (y0 : Int32) (μ : gM) : Option ((Int32 × gM) ⊕ ((gM) ⊕ (gM))) :=
  if (y0 = 0) then j_X8_parseTest_83 x3 x4 y0 (1 : Int32) μ else j_X8_parseTest_83 x3 x4 y0 (0 : Int32) μ
set_option maxHeartbeats 4000000 in
set_option maxRecDepth 100000 in
theorem wj_X8_parseTest_70 {p : Program} {l : Launch} {e : Env} {s : State} {m : MethodId} {args : Array Value} {below : List Frame} {meth : Method} {c : Code} {D : va_G} {cy : Nat → ClassId} {ad : Nat → Nat} {base : Nat} {x3 : Int32} {x4 : Int32} {y0 : Int32} {μ : gM} {o : (Int32 × gM) ⊕ ((gM) ⊕ (gM))} {RES : gM} (h : j_X8_parseTest_70 x3 x4 y0 μ = some o) (F : gF p s m meth c cX8_parseTest RX8 7 none) (E : gEnv l D cy ad base s) (kc : ∀ (t : Int32 × gM) {H : Heap} {locs : List Loc} {ls : Array Slot}, o = .inl t → gW gFull D cy ad base t.2 H → va_S (gA base) s.heap H locs → lv_has ls 7 [(0, .ref (ad 60)), (3, .int x3), (4, .int t.1)] → W p l e ({ frames := 4, cells := 0, slots := 0, locals := 88 } : Room) s m args below meth c H locs 0 0 (MQ below (gQ none gFull D cy ad base RES) args s 0 0 (gA base)) (F0 m 50 ls [])) (kx : ∀ (t : gM) {H : Heap} {locs : List Loc} {ls : Array Slot}, o = .inr (.inl t) → gW gFull D cy ad base t H → va_S (gA base) s.heap H locs → lv_has ls 7 [(0, .ref (ad 60))] → W p l e ({ frames := 4, cells := 0, slots := 0, locals := 88 } : Room) s m args below meth c H locs 0 0 (MQ below (gQ none gFull D cy ad base RES) args s 0 0 (gA base)) (F0 m 127 ls [])) (kr : ∀ x : gM, o = .inr (.inr x) → x = RES) {H : Heap} {locs : List Loc} {ls : Array Slot} (hM : gW gFull D cy ad base μ H) (hS : va_S (gA base) s.heap H locs) (hl : lv_has ls 7 [(0, .ref (ad 60)), (3, .int x3), (4, .int x4)]) : W p l e ({ frames := 4, cells := 0, slots := 0, locals := 88 } : Room) s m args below meth c H locs 0 0 (MQ below (gQ none gFull D cy ad base RES) args s 0 0 (gA base)) (F0 m 70 ls [.int y0]) := by
  obtain ⟨hx, hb, hml, hown, hlocks, hr⟩ := id F
  unfold j_X8_parseTest_70 at h
  refine lv_istore (lv' := [(5, .int y0), (0, .ref (ad 60)), (3, .int x3), (4, .int x4)]) hx hb dX8_parseTest_70 hl (by decide) rfl (fun ls hl => ?_)
  refine lv_aload_n hx hb dX8_parseTest_72 rfl (lv_at hl 1 rfl) ?_
  refine lv_iload hx hb dX8_parseTest_73 (lv_at hl 0 rfl) ?_
  refine lv_if_eq (tgt := 82) hx hb dX8_parseTest_75 (by decide) (fun c8 => ?_) (fun c8 => ?_)
  · replace h := gif_t c8 h
    refine lv_iconst (v := (1 : Int32)) hx hb dX8_parseTest_82 (by decide) ?_
    exact wj_X8_parseTest_83 h F E kc kx kr hM hS (lv_sub hl [1, 2, 3, 0] rfl)
  · replace h := gif_f c8 h
    refine lv_iconst (v := (0 : Int32)) hx hb dX8_parseTest_78 (by decide) ?_
    refine lv_goto (tgt := 83) hx hb dX8_parseTest_79 (by decide) ?_
    exact wj_X8_parseTest_83 h F E kc kx kr hM hS (lv_sub hl [1, 2, 3, 0] rfl)
def b_X8_parseTest_50 (x3 : Int32) (x4 : Int32) (μ : gM) : Option ((Int32 × gM) ⊕ ((gM) ⊕ (gM))) :=
  if ((8 : Int32) ≤ x4) then some (.inr (.inl μ)) else gchk (¬ (4 : Int32) = 0) (if ((2 : Int32) ≤ (x4 - x4 / (4 : Int32) * (4 : Int32))) then j_X8_parseTest_70 x3 x4 (0 : Int32) μ else j_X8_parseTest_70 x3 x4 (1 : Int32) μ)
set_option maxHeartbeats 4000000 in
set_option maxRecDepth 100000 in
theorem wb_X8_parseTest_50 {p : Program} {l : Launch} {e : Env} {s : State} {m : MethodId} {args : Array Value} {below : List Frame} {meth : Method} {c : Code} {D : va_G} {cy : Nat → ClassId} {ad : Nat → Nat} {base : Nat} {x3 : Int32} {x4 : Int32} {μ : gM} {o : (Int32 × gM) ⊕ ((gM) ⊕ (gM))} {RES : gM} (h : b_X8_parseTest_50 x3 x4 μ = some o) (F : gF p s m meth c cX8_parseTest RX8 7 none) (E : gEnv l D cy ad base s) (kc : ∀ (t : Int32 × gM) {H : Heap} {locs : List Loc} {ls : Array Slot}, o = .inl t → gW gFull D cy ad base t.2 H → va_S (gA base) s.heap H locs → lv_has ls 7 [(0, .ref (ad 60)), (3, .int x3), (4, .int t.1)] → W p l e ({ frames := 4, cells := 0, slots := 0, locals := 88 } : Room) s m args below meth c H locs 0 0 (MQ below (gQ none gFull D cy ad base RES) args s 0 0 (gA base)) (F0 m 50 ls [])) (kx : ∀ (t : gM) {H : Heap} {locs : List Loc} {ls : Array Slot}, o = .inr (.inl t) → gW gFull D cy ad base t H → va_S (gA base) s.heap H locs → lv_has ls 7 [(0, .ref (ad 60))] → W p l e ({ frames := 4, cells := 0, slots := 0, locals := 88 } : Room) s m args below meth c H locs 0 0 (MQ below (gQ none gFull D cy ad base RES) args s 0 0 (gA base)) (F0 m 127 ls [])) (kr : ∀ x : gM, o = .inr (.inr x) → x = RES) {H : Heap} {locs : List Loc} {ls : Array Slot} (hM : gW gFull D cy ad base μ H) (hS : va_S (gA base) s.heap H locs) (hl : lv_has ls 7 [(0, .ref (ad 60)), (3, .int x3), (4, .int x4)]) : W p l e ({ frames := 4, cells := 0, slots := 0, locals := 88 } : Room) s m args below meth c H locs 0 0 (MQ below (gQ none gFull D cy ad base RES) args s 0 0 (gA base)) (F0 m 50 ls []) := by
  obtain ⟨hx, hb, hml, hown, hlocks, hr⟩ := id F
  unfold b_X8_parseTest_50 at h
  refine lv_iload hx hb dX8_parseTest_50 (lv_at hl 2 rfl) ?_
  refine lv_bipush (v := (8 : Int32)) hx hb dX8_parseTest_52 (by decide) ?_
  refine lv_icmp_ge (tgt := 127) hx hb dX8_parseTest_54 (by decide) (fun c6 => ?_) (fun c6 => ?_)
  · replace h := gif_t c6 h
    exact kx _ (Option.some.inj h).symm hM hS (lv_sub hl [0] rfl)
  · replace h := gif_f c6 h
    refine lv_iload hx hb dX8_parseTest_57 (lv_at hl 2 rfl) ?_
    refine lv_iconst (v := (4 : Int32)) hx hb dX8_parseTest_59 (by decide) ?_
    obtain ⟨c13, h⟩ := gchk_e h
    refine lv_irem hx hb dX8_parseTest_60 c13 ?_
    refine lv_iconst (v := (2 : Int32)) hx hb dX8_parseTest_61 (by decide) ?_
    refine lv_icmp_ge (tgt := 69) hx hb dX8_parseTest_62 (by decide) (fun c7 => ?_) (fun c7 => ?_)
    · replace h := gif_t c7 h
      refine lv_iconst (v := (0 : Int32)) hx hb dX8_parseTest_69 (by decide) ?_
      exact wj_X8_parseTest_70 h F E kc kx kr hM hS hl
    · replace h := gif_f c7 h
      refine lv_iconst (v := (1 : Int32)) hx hb dX8_parseTest_65 (by decide) ?_
      refine lv_goto (tgt := 70) hx hb dX8_parseTest_66 (by decide) ?_
      exact wj_X8_parseTest_70 h F E kc kx kr hM hS hl
set_option maxHeartbeats 4000000 in
theorem wl_X8_parseTest_50 {p : Program} {l : Launch} {e : Env} {s : State} {m : MethodId} {args : Array Value} {below : List Frame} {meth : Method} {c : Code} {D : va_G} {cy : Nat → ClassId} {ad : Nat → Nat} {base : Nat} {x3 : Int32} {r : (gM) ⊕ (gM)} {RES : gM} (F : gF p s m meth c cX8_parseTest RX8 7 none) (E : gEnv l D cy ad base s) (kx : ∀ (t : gM) {H : Heap} {locs : List Loc} {ls : Array Slot}, r = .inl t → gW gFull D cy ad base t H → va_S (gA base) s.heap H locs → lv_has ls 7 [(0, .ref (ad 60))] → W p l e ({ frames := 4, cells := 0, slots := 0, locals := 88 } : Room) s m args below meth c H locs 0 0 (MQ below (gQ none gFull D cy ad base RES) args s 0 0 (gA base)) (F0 m 127 ls [])) (kr : ∀ x : gM, r = .inr x → x = RES) : ∀ (n : Nat) (x4 : Int32) (μ : gM), gloop (fun t => b_X8_parseTest_50 x3 t.1 t.2) n (x4, μ) = some r → ∀ {H : Heap} {locs : List Loc} {ls : Array Slot}, gW gFull D cy ad base μ H → va_S (gA base) s.heap H locs → lv_has ls 7 [(0, .ref (ad 60)), (3, .int x3), (4, .int x4)] → W p l e ({ frames := 4, cells := 0, slots := 0, locals := 88 } : Room) s m args below meth c H locs 0 0 (MQ below (gQ none gFull D cy ad base RES) args s 0 0 (gA base)) (F0 m 50 ls []) := by
  intro n
  induction n with
  | zero =>
    intro x4 μ h
    exact (gloop_0 h).elim
  | succ n ih =>
    intro x4 μ h H locs ls hM hS hl
    obtain ⟨o, h0, hc, hq⟩ := gloop_s h
    have h1 : b_X8_parseTest_50 x3 x4 μ = some o := h0
    exact wb_X8_parseTest_50 h1 F E (fun t H locs ls ho hM hS hl => ih t.1 t.2 (hc t ho) hM hS hl) (fun t H locs ls ho hM hS hl => kx t (hq _ ho).symm hM hS hl) (fun x ho => kr x (hq _ ho).symm) hM hS hl
def j_X8_parseTest_29 (x2 : Int32) (y0 : Int32) (y1 : Int32) (y2 : Int32) (μ : gM) : Option (gM) :=
  if ((gi μ 60 17) = 0) then gchk (gIn (y0 + (y1 * y2)) 137) (Option.bind (gloop (fun t => b_X8_parseTest_50 (y0 + (y1 * y2)) t.1 t.2) gFuel ((0 : Int32), (si μ 67 (y0 + (y1 * y2)).toNatClampNeg x2))) (fun q14 => Sum.elim (fun t15 => gchk (gIn (3 : Int32) 137) (gchk (gIn (3 : Int32) 137) (some (si t15 67 (3 : Int32).toNatClampNeg ((gi t15 67 (3 : Int32).toNatClampNeg) + (1 : Int32)))))) (fun x => some x) q14)) else some μ
set_option maxHeartbeats 4000000 in
set_option maxRecDepth 100000 in
theorem wj_X8_parseTest_29 {p : Program} {l : Launch} {e : Env} {s : State} {m : MethodId} {args : Array Value} {below : List Frame} {meth : Method} {c : Code} {D : va_G} {cy : Nat → ClassId} {ad : Nat → Nat} {base : Nat} {x2 : Int32} {y0 : Int32} {y1 : Int32} {y2 : Int32} {μ : gM} {o : gM} (h : j_X8_parseTest_29 x2 y0 y1 y2 μ = some o) (F : gF p s m meth c cX8_parseTest RX8 7 none) (E : gEnv l D cy ad base s)  {H : Heap} {locs : List Loc} {ls : Array Slot} (hM : gW gFull D cy ad base μ H) (hS : va_S (gA base) s.heap H locs) (hl : lv_has ls 7 [(0, .ref (ad 60)), (2, .int x2)]) : W p l e ({ frames := 4, cells := 0, slots := 0, locals := 88 } : Room) s m args below meth c H locs 0 0 (MQ below (gQ none gFull D cy ad base o) args s 0 0 (gA base)) (F0 m 29 ls [.int y2, .int y1, .int y0]) := by
  obtain ⟨hx, hb, hml, hown, hlocks, hr⟩ := id F
  unfold j_X8_parseTest_29 at h
  refine lv_imul hx hb dX8_parseTest_29 ?_
  refine lv_iadd hx hb dX8_parseTest_30 ?_
  refine lv_istore_n (lv' := [(3, .int (y0 + (y1 * y2))), (0, .ref (ad 60)), (2, .int x2)]) hx hb dX8_parseTest_31 rfl hl (by decide) rfl (fun ls hl => ?_)
  refine lv_aload_n hx hb dX8_parseTest_32 rfl (lv_at hl 1 rfl) ?_
  refine gg_60_17 hx hb hown E hM hk_60 kw_1259 dX8_parseTest_33 ?_
  refine lv_if_eq (tgt := 40) hx hb dX8_parseTest_36 (by decide) (fun c4 => ?_) (fun c4 => ?_)
  · replace h := gif_t c4 h
    refine lv_aload_n hx hb dX8_parseTest_40 rfl (lv_at hl 1 rfl) ?_
    refine gg_60_8 hx hb hown E hM hk_60 kw_1250 dX8_parseTest_41 ?_
    refine lv_iload_n hx hb dX8_parseTest_44 rfl (lv_at hl 0 rfl) ?_
    refine lv_iload_n hx hb dX8_parseTest_45 rfl (lv_at hl 2 rfl) ?_
    obtain ⟨c5, h⟩ := gchk_e h
    refine g_iast hx hb E hM hS hk_67 dd_67 c5 dX8_parseTest_46 (fun H locs hM hS => ?_)
    refine lv_iconst (v := (0 : Int32)) hx hb dX8_parseTest_47 (by decide) ?_
    refine lv_istore (lv' := [(4, .int (0 : Int32)), (3, .int (y0 + (y1 * y2))), (0, .ref (ad 60)), (2, .int x2)]) hx hb dX8_parseTest_48 hl (by decide) rfl (fun ls hl => ?_)
    obtain ⟨q14, h1, h⟩ := gbind_e h
    refine wl_X8_parseTest_50 F E (r := q14) (fun t15 H locs ls e1 hM hS hl => ?_) (fun x ex => ?_) gFuel (0 : Int32) (si μ 67 (y0 + (y1 * y2)).toNatClampNeg x2) h1 hM hS (lv_sub hl [2, 1, 0] rfl)
    · replace h := gsum_l e1 h
      refine lv_aload_n hx hb dX8_parseTest_127 rfl (lv_at hl 0 rfl) ?_
      refine gg_60_8 hx hb hown E hM hk_60 kw_1250 dX8_parseTest_128 ?_
      refine lv_iconst (v := (3 : Int32)) hx hb dX8_parseTest_131 (by decide) ?_
      refine lv_dup2_11 hx hb dX8_parseTest_132 rfl rfl ?_
      obtain ⟨c16, h⟩ := gchk_e h
      refine g_iald hx hb E hM hk_67 dd_67 c16 dX8_parseTest_133 ?_
      refine lv_iconst (v := (1 : Int32)) hx hb dX8_parseTest_134 (by decide) ?_
      refine lv_iadd hx hb dX8_parseTest_135 ?_
      obtain ⟨c17, h⟩ := gchk_e h
      refine g_iast hx hb E hM hS hk_67 dd_67 c17 dX8_parseTest_136 (fun H locs hM hS => ?_)
      obtain rfl := Option.some.inj h
      exact g_vret hx hb hr hlocks hM hS dX8_parseTest_137
    · exact Option.some.inj (gsum_r ex h)
  · replace h := gif_f c4 h
    obtain rfl := Option.some.inj h
    exact g_vret hx hb hr hlocks hM hS dX8_parseTest_39
def f_X8_parseTest (μ : gM) : Option (gM) :=
  Option.bind (f_X8_begin (3 : Int32) (6 : Int32) μ) (fun q1 => Option.bind (f_X8_readOldName (0 : Int32) q1.2) (fun q2 => if ((6 : Int32) ≤ q1.1) then j_X8_parseTest_29 q2.1 (64 : Int32) (9 : Int32) (0 : Int32) q2.2 else j_X8_parseTest_29 q2.1 (64 : Int32) (9 : Int32) q1.1 q2.2))
set_option maxHeartbeats 4000000 in
set_option maxRecDepth 100000 in
theorem c_X8_parseTest {l : Launch} {D : va_G} {cy : Nat → ClassId} {ad : Nat → Nat} {base : Nat}  {μ : gM} {RES : gM} (h : f_X8_parseTest  μ = some RES) : Met l yX8_parseTest [.code yX8_parseTest cX8_parseTest 7 none] ({ frames := 4, cells := 0, slots := 0, locals := 88 } : Room) (va_Pc [.ref (ad 60)] (gB l gFull D cy ad base μ)) (gQ none gFull D cy ad base RES) 0 0 (gA base) := by
  refine Met.ofW (cc := cX8_parseTest) (maxL := 7) (ret := none) (by decide) rfl ?_
  intro p e s m args below meth c s₁ B hml0 hv
  obtain ⟨rfl, E, hM⟩ := hv
  have F : gF p s m meth c cX8_parseTest RX8 7 none := gF_of B hml0
  obtain ⟨hx, hb, hml, hown, hlocks, hr⟩ := id F
  have hS : va_S (gA base) s.heap s.heap [] := va_S.rf
  have hl := lv_entry ([.ref (ad 60)]) (n := 7) (Nat.le_of_ble_eq_true rfl)
  rw [lg_entry_eq]
  generalize (lg_sl ([.ref (ad 60)]) ++ List.replicate (7 - (lg_sl ([.ref (ad 60)])).length) Slot.unset).toArray = ls at hl ⊢
  have hl : lv_has ls 7 [(0, .ref (ad 60))] := hl
  unfold f_X8_parseTest at h
  refine lv_aload_n hx hb dX8_parseTest_0 rfl (lv_at hl 0 rfl) ?_
  refine lv_iconst (v := (3 : Int32)) hx hb dX8_parseTest_1 (by decide) ?_
  refine lv_bipush (v := (6 : Int32)) hx hb dX8_parseTest_2 (by decide) ?_
  obtain ⟨q1, hq1, h⟩ := gbind_e h
  refine g_callV (As := [.int (3 : Int32), .int (6 : Int32)]) (rest := []) hx hb (hml.trans hl.1.symm) hown E hM hS hy_X8_begin kw_1405 (c_X8_begin hq1) hk_60 dd_60 rfl rfl rfl (Nat.le_of_ble_eq_true rfl) ⟨Nat.le_of_ble_eq_true rfl, Nat.le_of_ble_eq_true rfl⟩ ⟨Nat.le_of_ble_eq_true rfl, Nat.le_of_ble_eq_true rfl⟩ dX8_parseTest_4 (fun H locs hM hS => ?_)
  refine lv_istore_n (lv' := [(1, .int q1.1), (0, .ref (ad 60))]) hx hb dX8_parseTest_7 rfl hl (by decide) rfl (fun ls hl => ?_)
  refine lv_aload_n hx hb dX8_parseTest_8 rfl (lv_at hl 1 rfl) ?_
  refine lv_iconst (v := (0 : Int32)) hx hb dX8_parseTest_9 (by decide) ?_
  obtain ⟨q2, hq2, h⟩ := gbind_e h
  refine g_callV (As := [.int (0 : Int32)]) (rest := []) hx hb (hml.trans hl.1.symm) hown E hM hS hy_X8_readOldName kw_1451 (c_X8_readOldName hq2) hk_60 dd_60 rfl rfl rfl (Nat.le_of_ble_eq_true rfl) ⟨Nat.le_of_ble_eq_true rfl, Nat.le_of_ble_eq_true rfl⟩ ⟨Nat.le_of_ble_eq_true rfl, Nat.le_of_ble_eq_true rfl⟩ dX8_parseTest_10 (fun H locs hM hS => ?_)
  refine lv_istore_n (lv' := [(2, .int q2.1), (1, .int q1.1), (0, .ref (ad 60))]) hx hb dX8_parseTest_13 rfl hl (by decide) rfl (fun ls hl => ?_)
  refine lv_bipush (v := (64 : Int32)) hx hb dX8_parseTest_14 (by decide) ?_
  refine lv_bipush (v := (9 : Int32)) hx hb dX8_parseTest_16 (by decide) ?_
  refine lv_iload_n hx hb dX8_parseTest_18 rfl (lv_at hl 1 rfl) ?_
  refine lv_bipush (v := (6 : Int32)) hx hb dX8_parseTest_19 (by decide) ?_
  refine lv_icmp_ge (tgt := 28) hx hb dX8_parseTest_21 (by decide) (fun c3 => ?_) (fun c3 => ?_)
  · replace h := gif_t c3 h
    refine lv_iconst (v := (0 : Int32)) hx hb dX8_parseTest_28 (by decide) ?_
    exact wj_X8_parseTest_29 h F E hM hS (lv_sub hl [2, 0] rfl)
  · replace h := gif_f c3 h
    refine lv_iload_n hx hb dX8_parseTest_24 rfl (lv_at hl 1 rfl) ?_
    refine lv_goto (tgt := 29) hx hb dX8_parseTest_25 (by decide) ?_
    exact wj_X8_parseTest_29 h F E hM hS (lv_sub hl [2, 0] rfl)
def f_X8_settingHere (μ : gM) : Option (Int32) :=
  Option.bind (f_X8_isWord (22518700226661 : Int64) μ) (fun q1 => if ((b2i q1) = 0) then Option.bind (f_X8_isWord (20225300 : Int64) μ) (fun q3 => if ((b2i q3) = 0) then Option.bind (f_X8_isWord (2193668197 : Int64) μ) (fun q5 => if ((b2i q5) = 0) then some (-1 : Int32) else some (2 : Int32)) else some (1 : Int32)) else some (0 : Int32))
set_option maxHeartbeats 4000000 in
set_option maxRecDepth 100000 in
theorem c_X8_settingHere {l : Launch} {D : va_G} {cy : Nat → ClassId} {ad : Nat → Nat} {base : Nat}  {μ : gM} {RES : Int32} (h : f_X8_settingHere  μ = some RES) : Met l yX8_settingHere [.code yX8_settingHere cX8_settingHere 1 (some .int)] ({ frames := 1, cells := 0, slots := 0, locals := 22 } : Room) (va_Pc [.ref (ad 60)] (gB l gFull D cy ad base μ)) (gQ (some (.int RES)) gFull D cy ad base μ) 0 0 (gA base) := by
  refine Met.ofW (cc := cX8_settingHere) (maxL := 1) (ret := (some .int)) (by decide) rfl ?_
  intro p e s m args below meth c s₁ B hml0 hv
  obtain ⟨rfl, E, hM⟩ := hv
  have F : gF p s m meth c cX8_settingHere RX8 1 (some .int) := gF_of B hml0
  obtain ⟨hx, hb, hml, hown, hlocks, hr⟩ := id F
  have hS : va_S (gA base) s.heap s.heap [] := va_S.rf
  have hl := lv_entry ([.ref (ad 60)]) (n := 1) (Nat.le_of_ble_eq_true rfl)
  rw [lg_entry_eq]
  generalize (lg_sl ([.ref (ad 60)]) ++ List.replicate (1 - (lg_sl ([.ref (ad 60)])).length) Slot.unset).toArray = ls at hl ⊢
  have hl : lv_has ls 1 [(0, .ref (ad 60))] := hl
  unfold f_X8_settingHere at h
  refine lv_aload_n hx hb dX8_settingHere_0 rfl (lv_at hl 0 rfl) ?_
  refine lv_ldc2 hx hb hown (v := (22518700226661 : Int64)) (E.kw kw_1483) dX8_settingHere_1 ?_
  obtain ⟨q1, hq1, h⟩ := gbind_e h
  refine g_callV (As := [.long (22518700226661 : Int64)]) (rest := []) hx hb (hml.trans hl.1.symm) hown E hM hS hy_X8_isWord kw_1397 (c_X8_isWord hq1) hk_60 dd_60 rfl rfl rfl (Nat.le_of_ble_eq_true rfl) ⟨Nat.le_of_ble_eq_true rfl, Nat.le_of_ble_eq_true rfl⟩ ⟨Nat.le_of_ble_eq_true rfl, Nat.le_of_ble_eq_true rfl⟩ dX8_settingHere_4 (fun H locs hM hS => ?_)
  refine lv_if_eq (tgt := 12) hx hb dX8_settingHere_7 (by decide) (fun c2 => ?_) (fun c2 => ?_)
  · replace h := gif_t c2 h
    refine lv_aload_n hx hb dX8_settingHere_12 rfl (lv_at hl 0 rfl) ?_
    refine lv_ldc2 hx hb hown (v := (20225300 : Int64)) (E.kw kw_1434) dX8_settingHere_13 ?_
    obtain ⟨q3, hq3, h⟩ := gbind_e h
    refine g_callV (As := [.long (20225300 : Int64)]) (rest := []) hx hb (hml.trans hl.1.symm) hown E hM hS hy_X8_isWord kw_1397 (c_X8_isWord hq3) hk_60 dd_60 rfl rfl rfl (Nat.le_of_ble_eq_true rfl) ⟨Nat.le_of_ble_eq_true rfl, Nat.le_of_ble_eq_true rfl⟩ ⟨Nat.le_of_ble_eq_true rfl, Nat.le_of_ble_eq_true rfl⟩ dX8_settingHere_16 (fun H locs hM hS => ?_)
    refine lv_if_eq (tgt := 24) hx hb dX8_settingHere_19 (by decide) (fun c4 => ?_) (fun c4 => ?_)
    · replace h := gif_t c4 h
      refine lv_aload_n hx hb dX8_settingHere_24 rfl (lv_at hl 0 rfl) ?_
      refine lv_ldc2 hx hb hown (v := (2193668197 : Int64)) (E.kw kw_1484) dX8_settingHere_25 ?_
      obtain ⟨q5, hq5, h⟩ := gbind_e h
      refine g_callV (As := [.long (2193668197 : Int64)]) (rest := []) hx hb (hml.trans hl.1.symm) hown E hM hS hy_X8_isWord kw_1397 (c_X8_isWord hq5) hk_60 dd_60 rfl rfl rfl (Nat.le_of_ble_eq_true rfl) ⟨Nat.le_of_ble_eq_true rfl, Nat.le_of_ble_eq_true rfl⟩ ⟨Nat.le_of_ble_eq_true rfl, Nat.le_of_ble_eq_true rfl⟩ dX8_settingHere_28 (fun H locs hM hS => ?_)
      refine lv_if_eq (tgt := 38) hx hb dX8_settingHere_31 (by decide) (fun c6 => ?_) (fun c6 => ?_)
      · replace h := gif_t c6 h
        refine lv_iconst (v := (-1 : Int32)) hx hb dX8_settingHere_38 (by decide) ?_
        obtain rfl := Option.some.inj h
        exact g_iret hx hb hr hlocks hM hS dX8_settingHere_39
      · replace h := gif_f c6 h
        refine lv_iconst (v := (2 : Int32)) hx hb dX8_settingHere_34 (by decide) ?_
        refine lv_goto (tgt := 39) hx hb dX8_settingHere_35 (by decide) ?_
        obtain rfl := Option.some.inj h
        exact g_iret hx hb hr hlocks hM hS dX8_settingHere_39
    · replace h := gif_f c4 h
      refine lv_iconst (v := (1 : Int32)) hx hb dX8_settingHere_22 (by decide) ?_
      obtain rfl := Option.some.inj h
      exact g_iret hx hb hr hlocks hM hS dX8_settingHere_23
  · replace h := gif_f c2 h
    refine lv_iconst (v := (0 : Int32)) hx hb dX8_settingHere_10 (by decide) ?_
    obtain rfl := Option.some.inj h
    exact g_iret hx hb hr hlocks hM hS dX8_settingHere_11
def j_X8_parseSetting_49 (x1 : Int32) (y1 : Int32) (μ : gM) : Option (gM) :=
  Option.bind (f_X8_check y1 (-14 : Int32) μ) (fun q8 => Option.bind (f_X8_advanceIfGood  (si q8 60 19 ((gi q8 60 19) ||| ((1 : Int32) <<< (x1 &&& 31))))) (fun q9 => if ((gi q9 60 17) = 0) then Option.bind (f_X8_leastOf x1 q9) (fun q11 => Option.bind (f_X8_mostOf x1 q9) (fun q12 => Option.bind (f_X8_readNumber x1 q11 q12 q9) (fun q13 => some q13))) else some q9))
set_option maxHeartbeats 4000000 in
set_option maxRecDepth 100000 in
theorem wj_X8_parseSetting_49 {p : Program} {l : Launch} {e : Env} {s : State} {m : MethodId} {args : Array Value} {below : List Frame} {meth : Method} {c : Code} {D : va_G} {cy : Nat → ClassId} {ad : Nat → Nat} {base : Nat} {x1 : Int32} {y1 : Int32} {μ : gM} {o : gM} (h : j_X8_parseSetting_49 x1 y1 μ = some o) (F : gF p s m meth c cX8_parseSetting RX8 2 none) (E : gEnv l D cy ad base s)  {H : Heap} {locs : List Loc} {ls : Array Slot} (hM : gW gFull D cy ad base μ H) (hS : va_S (gA base) s.heap H locs) (hl : lv_has ls 2 [(0, .ref (ad 60)), (1, .int x1)]) : W p l e ({ frames := 5, cells := 0, slots := 0, locals := 110 } : Room) s m args below meth c H locs 0 0 (MQ below (gQ none gFull D cy ad base o) args s 0 0 (gA base)) (F0 m 49 ls [.int y1, .ref (ad 60)]) := by
  obtain ⟨hx, hb, hml, hown, hlocks, hr⟩ := id F
  unfold j_X8_parseSetting_49 at h
  refine lv_bipush (v := (-14 : Int32)) hx hb dX8_parseSetting_49 (by decide) ?_
  obtain ⟨q8, hq8, h⟩ := gbind_e h
  refine g_callV (As := [.int y1, .int (-14 : Int32)]) (rest := []) hx hb (hml.trans hl.1.symm) hown E hM hS hy_X8_check kw_1409 (c_X8_check hq8) hk_60 dd_60 rfl rfl rfl (Nat.le_of_ble_eq_true rfl) ⟨Nat.le_of_ble_eq_true rfl, Nat.le_of_ble_eq_true rfl⟩ ⟨Nat.le_of_ble_eq_true rfl, Nat.le_of_ble_eq_true rfl⟩ dX8_parseSetting_51 (fun H locs hM hS => ?_)
  refine lv_aload_n hx hb dX8_parseSetting_54 rfl (lv_at hl 0 rfl) ?_
  refine lv_dup hx hb dX8_parseSetting_55 rfl ?_
  refine gg_60_19 hx hb hown E hM hk_60 kw_1261 dX8_parseSetting_56 ?_
  refine lv_iconst (v := (1 : Int32)) hx hb dX8_parseSetting_59 (by decide) ?_
  refine lv_iload_n hx hb dX8_parseSetting_60 rfl (lv_at hl 1 rfl) ?_
  refine lv_ishl hx hb dX8_parseSetting_61 ?_
  refine lv_ior hx hb dX8_parseSetting_62 ?_
  refine gp_60_19 hx hb hown E hM hS hk_60 kw_1261 dX8_parseSetting_63 (fun H locs hM hS => ?_)
  refine lv_aload_n hx hb dX8_parseSetting_66 rfl (lv_at hl 0 rfl) ?_
  obtain ⟨q9, hq9, h⟩ := gbind_e h
  refine g_callV (As := []) (rest := []) hx hb (hml.trans hl.1.symm) hown E hM hS hy_X8_advanceIfGood kw_1413 (c_X8_advanceIfGood hq9) hk_60 dd_60 rfl rfl rfl (Nat.le_of_ble_eq_true rfl) ⟨Nat.le_of_ble_eq_true rfl, Nat.le_of_ble_eq_true rfl⟩ ⟨Nat.le_of_ble_eq_true rfl, Nat.le_of_ble_eq_true rfl⟩ dX8_parseSetting_67 (fun H locs hM hS => ?_)
  refine lv_aload_n hx hb dX8_parseSetting_70 rfl (lv_at hl 0 rfl) ?_
  refine gg_60_17 hx hb hown E hM hk_60 kw_1259 dX8_parseSetting_71 ?_
  refine lv_if_ne (tgt := 90) hx hb dX8_parseSetting_74 (by decide) (fun c10 => ?_) (fun c10 => ?_)
  · replace h := gif_f c10 h
    obtain rfl := Option.some.inj h
    exact g_vret hx hb hr hlocks hM hS dX8_parseSetting_90
  · replace h := gif_t c10 h
    refine lv_aload_n hx hb dX8_parseSetting_77 rfl (lv_at hl 0 rfl) ?_
    refine lv_iload_n hx hb dX8_parseSetting_78 rfl (lv_at hl 1 rfl) ?_
    refine lv_iload_n hx hb dX8_parseSetting_79 rfl (lv_at hl 1 rfl) ?_
    obtain ⟨q11, hq11, h⟩ := gbind_e h
    refine g_callS (As := [.int x1]) (rest := [.int x1, .ref (ad 60)]) hx hb (hml.trans hl.1.symm) hown E hM hS hy_X8_leastOf kw_1488 (c_X8_leastOf hq11) rfl rfl (Nat.le_of_ble_eq_true rfl) ⟨Nat.le_of_ble_eq_true rfl, Nat.le_of_ble_eq_true rfl⟩ ⟨Nat.le_of_ble_eq_true rfl, Nat.le_of_ble_eq_true rfl⟩ dX8_parseSetting_80 (fun H locs hM hS => ?_)
    refine lv_iload_n hx hb dX8_parseSetting_83 rfl (lv_at hl 1 rfl) ?_
    obtain ⟨q12, hq12, h⟩ := gbind_e h
    refine g_callS (As := [.int x1]) (rest := [.int q11, .int x1, .ref (ad 60)]) hx hb (hml.trans hl.1.symm) hown E hM hS hy_X8_mostOf kw_1491 (c_X8_mostOf hq12) rfl rfl (Nat.le_of_ble_eq_true rfl) ⟨Nat.le_of_ble_eq_true rfl, Nat.le_of_ble_eq_true rfl⟩ ⟨Nat.le_of_ble_eq_true rfl, Nat.le_of_ble_eq_true rfl⟩ dX8_parseSetting_84 (fun H locs hM hS => ?_)
    obtain ⟨q13, hq13, h⟩ := gbind_e h
    refine g_callV (As := [.int x1, .int q11, .int q12]) (rest := []) hx hb (hml.trans hl.1.symm) hown E hM hS hy_X8_readNumber kw_1467 (c_X8_readNumber hq13) hk_60 dd_60 rfl rfl rfl (Nat.le_of_ble_eq_true rfl) ⟨Nat.le_of_ble_eq_true rfl, Nat.le_of_ble_eq_true rfl⟩ ⟨Nat.le_of_ble_eq_true rfl, Nat.le_of_ble_eq_true rfl⟩ dX8_parseSetting_87 (fun H locs hM hS => ?_)
    obtain rfl := Option.some.inj h
    exact g_vret hx hb hr hlocks hM hS dX8_parseSetting_90
def j_X8_parseSetting_19 (x1 : Int32) (y1 : Int32) (μ : gM) : Option (gM) :=
  Option.bind (f_X8_check y1 (-11 : Int32) μ) (fun q4 => if ((gi q4 60 17) = 0) then Option.bind (f_X8_has (gi q4 60 19) x1 q4) (fun q6 => if ((b2i q6) = 0) then j_X8_parseSetting_49 x1 (1 : Int32) q4 else j_X8_parseSetting_49 x1 (0 : Int32) q4) else some q4)
set_option maxHeartbeats 4000000 in
set_option maxRecDepth 100000 in
theorem wj_X8_parseSetting_19 {p : Program} {l : Launch} {e : Env} {s : State} {m : MethodId} {args : Array Value} {below : List Frame} {meth : Method} {c : Code} {D : va_G} {cy : Nat → ClassId} {ad : Nat → Nat} {base : Nat} {x1 : Int32} {y1 : Int32} {μ : gM} {o : gM} (h : j_X8_parseSetting_19 x1 y1 μ = some o) (F : gF p s m meth c cX8_parseSetting RX8 2 none) (E : gEnv l D cy ad base s)  {H : Heap} {locs : List Loc} {ls : Array Slot} (hM : gW gFull D cy ad base μ H) (hS : va_S (gA base) s.heap H locs) (hl : lv_has ls 2 [(0, .ref (ad 60)), (1, .int x1)]) : W p l e ({ frames := 5, cells := 0, slots := 0, locals := 110 } : Room) s m args below meth c H locs 0 0 (MQ below (gQ none gFull D cy ad base o) args s 0 0 (gA base)) (F0 m 19 ls [.int y1, .ref (ad 60)]) := by
  obtain ⟨hx, hb, hml, hown, hlocks, hr⟩ := id F
  unfold j_X8_parseSetting_19 at h
  refine lv_bipush (v := (-11 : Int32)) hx hb dX8_parseSetting_19 (by decide) ?_
  obtain ⟨q4, hq4, h⟩ := gbind_e h
  refine g_callV (As := [.int y1, .int (-11 : Int32)]) (rest := []) hx hb (hml.trans hl.1.symm) hown E hM hS hy_X8_check kw_1409 (c_X8_check hq4) hk_60 dd_60 rfl rfl rfl (Nat.le_of_ble_eq_true rfl) ⟨Nat.le_of_ble_eq_true rfl, Nat.le_of_ble_eq_true rfl⟩ ⟨Nat.le_of_ble_eq_true rfl, Nat.le_of_ble_eq_true rfl⟩ dX8_parseSetting_21 (fun H locs hM hS => ?_)
  refine lv_aload_n hx hb dX8_parseSetting_24 rfl (lv_at hl 0 rfl) ?_
  refine gg_60_17 hx hb hown E hM hk_60 kw_1259 dX8_parseSetting_25 ?_
  refine lv_if_eq (tgt := 32) hx hb dX8_parseSetting_28 (by decide) (fun c5 => ?_) (fun c5 => ?_)
  · replace h := gif_t c5 h
    refine lv_aload_n hx hb dX8_parseSetting_32 rfl (lv_at hl 0 rfl) ?_
    refine lv_aload_n hx hb dX8_parseSetting_33 rfl (lv_at hl 0 rfl) ?_
    refine gg_60_19 hx hb hown E hM hk_60 kw_1261 dX8_parseSetting_34 ?_
    refine lv_iload_n hx hb dX8_parseSetting_37 rfl (lv_at hl 1 rfl) ?_
    obtain ⟨q6, hq6, h⟩ := gbind_e h
    refine g_callS (As := [.int (gi q4 60 19), .int x1]) (rest := [.ref (ad 60)]) hx hb (hml.trans hl.1.symm) hown E hM hS hy_X8_has kw_1485 (c_X8_has hq6) rfl rfl (Nat.le_of_ble_eq_true rfl) ⟨Nat.le_of_ble_eq_true rfl, Nat.le_of_ble_eq_true rfl⟩ ⟨Nat.le_of_ble_eq_true rfl, Nat.le_of_ble_eq_true rfl⟩ dX8_parseSetting_38 (fun H locs hM hS => ?_)
    refine lv_if_ne (tgt := 48) hx hb dX8_parseSetting_41 (by decide) (fun c7 => ?_) (fun c7 => ?_)
    · replace h := gif_f c7 h
      refine lv_iconst (v := (0 : Int32)) hx hb dX8_parseSetting_48 (by decide) ?_
      exact wj_X8_parseSetting_49 h F E hM hS hl
    · replace h := gif_t c7 h
      refine lv_iconst (v := (1 : Int32)) hx hb dX8_parseSetting_44 (by decide) ?_
      refine lv_goto (tgt := 49) hx hb dX8_parseSetting_45 (by decide) ?_
      exact wj_X8_parseSetting_49 h F E hM hS hl
  · replace h := gif_f c5 h
    obtain rfl := Option.some.inj h
    exact g_vret hx hb hr hlocks hM hS dX8_parseSetting_31
def f_X8_parseSetting (μ : gM) : Option (gM) :=
  Option.bind (f_X8_advance  μ) (fun q1 => Option.bind (f_X8_settingHere  q1) (fun q2 => if (q2 < 0) then j_X8_parseSetting_19 q2 (0 : Int32) q1 else j_X8_parseSetting_19 q2 (1 : Int32) q1))
set_option maxHeartbeats 4000000 in
set_option maxRecDepth 100000 in
theorem c_X8_parseSetting {l : Launch} {D : va_G} {cy : Nat → ClassId} {ad : Nat → Nat} {base : Nat}  {μ : gM} {RES : gM} (h : f_X8_parseSetting  μ = some RES) : Met l yX8_parseSetting [.code yX8_parseSetting cX8_parseSetting 2 none] ({ frames := 5, cells := 0, slots := 0, locals := 110 } : Room) (va_Pc [.ref (ad 60)] (gB l gFull D cy ad base μ)) (gQ none gFull D cy ad base RES) 0 0 (gA base) := by
  refine Met.ofW (cc := cX8_parseSetting) (maxL := 2) (ret := none) (by decide) rfl ?_
  intro p e s m args below meth c s₁ B hml0 hv
  obtain ⟨rfl, E, hM⟩ := hv
  have F : gF p s m meth c cX8_parseSetting RX8 2 none := gF_of B hml0
  obtain ⟨hx, hb, hml, hown, hlocks, hr⟩ := id F
  have hS : va_S (gA base) s.heap s.heap [] := va_S.rf
  have hl := lv_entry ([.ref (ad 60)]) (n := 2) (Nat.le_of_ble_eq_true rfl)
  rw [lg_entry_eq]
  generalize (lg_sl ([.ref (ad 60)]) ++ List.replicate (2 - (lg_sl ([.ref (ad 60)])).length) Slot.unset).toArray = ls at hl ⊢
  have hl : lv_has ls 2 [(0, .ref (ad 60))] := hl
  unfold f_X8_parseSetting at h
  refine lv_aload_n hx hb dX8_parseSetting_0 rfl (lv_at hl 0 rfl) ?_
  obtain ⟨q1, hq1, h⟩ := gbind_e h
  refine g_callV (As := []) (rest := []) hx hb (hml.trans hl.1.symm) hown E hM hS hy_X8_advance kw_1382 (c_X8_advance hq1) hk_60 dd_60 rfl rfl rfl (Nat.le_of_ble_eq_true rfl) ⟨Nat.le_of_ble_eq_true rfl, Nat.le_of_ble_eq_true rfl⟩ ⟨Nat.le_of_ble_eq_true rfl, Nat.le_of_ble_eq_true rfl⟩ dX8_parseSetting_1 (fun H locs hM hS => ?_)
  refine lv_aload_n hx hb dX8_parseSetting_4 rfl (lv_at hl 0 rfl) ?_
  obtain ⟨q2, hq2, h⟩ := gbind_e h
  refine g_callV (As := []) (rest := []) hx hb (hml.trans hl.1.symm) hown E hM hS hy_X8_settingHere kw_1479 (c_X8_settingHere hq2) hk_60 dd_60 rfl rfl rfl (Nat.le_of_ble_eq_true rfl) ⟨Nat.le_of_ble_eq_true rfl, Nat.le_of_ble_eq_true rfl⟩ ⟨Nat.le_of_ble_eq_true rfl, Nat.le_of_ble_eq_true rfl⟩ dX8_parseSetting_5 (fun H locs hM hS => ?_)
  refine lv_istore_n (lv' := [(1, .int q2), (0, .ref (ad 60))]) hx hb dX8_parseSetting_8 rfl hl (by decide) rfl (fun ls hl => ?_)
  refine lv_aload_n hx hb dX8_parseSetting_9 rfl (lv_at hl 1 rfl) ?_
  refine lv_iload_n hx hb dX8_parseSetting_10 rfl (lv_at hl 0 rfl) ?_
  refine lv_if_lt (tgt := 18) hx hb dX8_parseSetting_11 (by decide) (fun c3 => ?_) (fun c3 => ?_)
  · replace h := gif_t c3 h
    refine lv_iconst (v := (0 : Int32)) hx hb dX8_parseSetting_18 (by decide) ?_
    exact wj_X8_parseSetting_19 h F E hM hS (lv_sub hl [1, 0] rfl)
  · replace h := gif_f c3 h
    refine lv_iconst (v := (1 : Int32)) hx hb dX8_parseSetting_14 (by decide) ?_
    refine lv_goto (tgt := 19) hx hb dX8_parseSetting_15 (by decide) ?_
    exact wj_X8_parseSetting_19 h F E hM hS (lv_sub hl [1, 0] rfl)
def f_X8_parseStatement (μ : gM) : Option (gM) :=
  Option.bind (f_X8_isWord (12769452 : Int64) μ) (fun q1 => if ((b2i q1) = 0) then Option.bind (f_X8_isWord (17278420 : Int64) μ) (fun q3 => if ((b2i q3) = 0) then Option.bind (f_X8_isWord (402885 : Int64) μ) (fun q5 => if ((b2i q5) = 0) then Option.bind (f_X8_isWord (661108 : Int64) μ) (fun q7 => if ((b2i q7) = 0) then Option.bind (f_X8_isWord (19636 : Int64) μ) (fun q9 => if ((b2i q9) = 0) then Option.bind (f_X8_check (0 : Int32) (-11 : Int32) μ) (fun q11 => some q11) else Option.bind (f_X8_parseSetting  μ) (fun q12 => some q12)) else Option.bind (f_X8_parseTest  μ) (fun q13 => some q13)) else Option.bind (f_X8_parseLine  μ) (fun q14 => some q14)) else Option.bind (f_X8_parsePoint  μ) (fun q15 => some q15)) else Option.bind (f_X8_parseLevel  μ) (fun q16 => some q16))
set_option maxHeartbeats 4000000 in
set_option maxRecDepth 100000 in
theorem c_X8_parseStatement {l : Launch} {D : va_G} {cy : Nat → ClassId} {ad : Nat → Nat} {base : Nat}  {μ : gM} {RES : gM} (h : f_X8_parseStatement  μ = some RES) : Met l yX8_parseStatement [.code yX8_parseStatement cX8_parseStatement 1 none] ({ frames := 7, cells := 0, slots := 0, locals := 157 } : Room) (va_Pc [.ref (ad 60)] (gB l gFull D cy ad base μ)) (gQ none gFull D cy ad base RES) 0 0 (gA base) := by
  refine Met.ofW (cc := cX8_parseStatement) (maxL := 1) (ret := none) (by decide) rfl ?_
  intro p e s m args below meth c s₁ B hml0 hv
  obtain ⟨rfl, E, hM⟩ := hv
  have F : gF p s m meth c cX8_parseStatement RX8 1 none := gF_of B hml0
  obtain ⟨hx, hb, hml, hown, hlocks, hr⟩ := id F
  have hS : va_S (gA base) s.heap s.heap [] := va_S.rf
  have hl := lv_entry ([.ref (ad 60)]) (n := 1) (Nat.le_of_ble_eq_true rfl)
  rw [lg_entry_eq]
  generalize (lg_sl ([.ref (ad 60)]) ++ List.replicate (1 - (lg_sl ([.ref (ad 60)])).length) Slot.unset).toArray = ls at hl ⊢
  have hl : lv_has ls 1 [(0, .ref (ad 60))] := hl
  unfold f_X8_parseStatement at h
  refine lv_aload_n hx hb dX8_parseStatement_0 rfl (lv_at hl 0 rfl) ?_
  refine lv_ldc2 hx hb hown (v := (12769452 : Int64)) (E.kw kw_1396) dX8_parseStatement_1 ?_
  obtain ⟨q1, hq1, h⟩ := gbind_e h
  refine g_callV (As := [.long (12769452 : Int64)]) (rest := []) hx hb (hml.trans hl.1.symm) hown E hM hS hy_X8_isWord kw_1397 (c_X8_isWord hq1) hk_60 dd_60 rfl rfl rfl (Nat.le_of_ble_eq_true rfl) ⟨Nat.le_of_ble_eq_true rfl, Nat.le_of_ble_eq_true rfl⟩ ⟨Nat.le_of_ble_eq_true rfl, Nat.le_of_ble_eq_true rfl⟩ dX8_parseStatement_4 (fun H locs hM hS => ?_)
  refine lv_if_eq (tgt := 17) hx hb dX8_parseStatement_7 (by decide) (fun c2 => ?_) (fun c2 => ?_)
  · replace h := gif_t c2 h
    refine lv_aload_n hx hb dX8_parseStatement_17 rfl (lv_at hl 0 rfl) ?_
    refine lv_ldc2 hx hb hown (v := (17278420 : Int64)) (E.kw kw_1430) dX8_parseStatement_18 ?_
    obtain ⟨q3, hq3, h⟩ := gbind_e h
    refine g_callV (As := [.long (17278420 : Int64)]) (rest := []) hx hb (hml.trans hl.1.symm) hown E hM hS hy_X8_isWord kw_1397 (c_X8_isWord hq3) hk_60 dd_60 rfl rfl rfl (Nat.le_of_ble_eq_true rfl) ⟨Nat.le_of_ble_eq_true rfl, Nat.le_of_ble_eq_true rfl⟩ ⟨Nat.le_of_ble_eq_true rfl, Nat.le_of_ble_eq_true rfl⟩ dX8_parseStatement_21 (fun H locs hM hS => ?_)
    refine lv_if_eq (tgt := 34) hx hb dX8_parseStatement_24 (by decide) (fun c4 => ?_) (fun c4 => ?_)
    · replace h := gif_t c4 h
      refine lv_aload_n hx hb dX8_parseStatement_34 rfl (lv_at hl 0 rfl) ?_
      refine lv_ldc2 hx hb hown (v := (402885 : Int64)) (E.kw kw_1431) dX8_parseStatement_35 ?_
      obtain ⟨q5, hq5, h⟩ := gbind_e h
      refine g_callV (As := [.long (402885 : Int64)]) (rest := []) hx hb (hml.trans hl.1.symm) hown E hM hS hy_X8_isWord kw_1397 (c_X8_isWord hq5) hk_60 dd_60 rfl rfl rfl (Nat.le_of_ble_eq_true rfl) ⟨Nat.le_of_ble_eq_true rfl, Nat.le_of_ble_eq_true rfl⟩ ⟨Nat.le_of_ble_eq_true rfl, Nat.le_of_ble_eq_true rfl⟩ dX8_parseStatement_38 (fun H locs hM hS => ?_)
      refine lv_if_eq (tgt := 51) hx hb dX8_parseStatement_41 (by decide) (fun c6 => ?_) (fun c6 => ?_)
      · replace h := gif_t c6 h
        refine lv_aload_n hx hb dX8_parseStatement_51 rfl (lv_at hl 0 rfl) ?_
        refine lv_ldc2 hx hb hown (v := (661108 : Int64)) (E.kw kw_1432) dX8_parseStatement_52 ?_
        obtain ⟨q7, hq7, h⟩ := gbind_e h
        refine g_callV (As := [.long (661108 : Int64)]) (rest := []) hx hb (hml.trans hl.1.symm) hown E hM hS hy_X8_isWord kw_1397 (c_X8_isWord hq7) hk_60 dd_60 rfl rfl rfl (Nat.le_of_ble_eq_true rfl) ⟨Nat.le_of_ble_eq_true rfl, Nat.le_of_ble_eq_true rfl⟩ ⟨Nat.le_of_ble_eq_true rfl, Nat.le_of_ble_eq_true rfl⟩ dX8_parseStatement_55 (fun H locs hM hS => ?_)
        refine lv_if_eq (tgt := 68) hx hb dX8_parseStatement_58 (by decide) (fun c8 => ?_) (fun c8 => ?_)
        · replace h := gif_t c8 h
          refine lv_aload_n hx hb dX8_parseStatement_68 rfl (lv_at hl 0 rfl) ?_
          refine lv_ldc2 hx hb hown (v := (19636 : Int64)) (E.kw kw_1433) dX8_parseStatement_69 ?_
          obtain ⟨q9, hq9, h⟩ := gbind_e h
          refine g_callV (As := [.long (19636 : Int64)]) (rest := []) hx hb (hml.trans hl.1.symm) hown E hM hS hy_X8_isWord kw_1397 (c_X8_isWord hq9) hk_60 dd_60 rfl rfl rfl (Nat.le_of_ble_eq_true rfl) ⟨Nat.le_of_ble_eq_true rfl, Nat.le_of_ble_eq_true rfl⟩ ⟨Nat.le_of_ble_eq_true rfl, Nat.le_of_ble_eq_true rfl⟩ dX8_parseStatement_72 (fun H locs hM hS => ?_)
          refine lv_if_eq (tgt := 85) hx hb dX8_parseStatement_75 (by decide) (fun c10 => ?_) (fun c10 => ?_)
          · replace h := gif_t c10 h
            refine lv_aload_n hx hb dX8_parseStatement_85 rfl (lv_at hl 0 rfl) ?_
            refine lv_iconst (v := (0 : Int32)) hx hb dX8_parseStatement_86 (by decide) ?_
            refine lv_bipush (v := (-11 : Int32)) hx hb dX8_parseStatement_87 (by decide) ?_
            obtain ⟨q11, hq11, h⟩ := gbind_e h
            refine g_callV (As := [.int (0 : Int32), .int (-11 : Int32)]) (rest := []) hx hb (hml.trans hl.1.symm) hown E hM hS hy_X8_check kw_1409 (c_X8_check hq11) hk_60 dd_60 rfl rfl rfl (Nat.le_of_ble_eq_true rfl) ⟨Nat.le_of_ble_eq_true rfl, Nat.le_of_ble_eq_true rfl⟩ ⟨Nat.le_of_ble_eq_true rfl, Nat.le_of_ble_eq_true rfl⟩ dX8_parseStatement_89 (fun H locs hM hS => ?_)
            obtain rfl := Option.some.inj h
            exact g_vret hx hb hr hlocks hM hS dX8_parseStatement_92
          · replace h := gif_f c10 h
            refine lv_aload_n hx hb dX8_parseStatement_78 rfl (lv_at hl 0 rfl) ?_
            obtain ⟨q12, hq12, h⟩ := gbind_e h
            refine g_callV (As := []) (rest := []) hx hb (hml.trans hl.1.symm) hown E hM hS hy_X8_parseSetting kw_1475 (c_X8_parseSetting hq12) hk_60 dd_60 rfl rfl rfl (Nat.le_of_ble_eq_true rfl) ⟨Nat.le_of_ble_eq_true rfl, Nat.le_of_ble_eq_true rfl⟩ ⟨Nat.le_of_ble_eq_true rfl, Nat.le_of_ble_eq_true rfl⟩ dX8_parseStatement_79 (fun H locs hM hS => ?_)
            refine lv_goto (tgt := 92) hx hb dX8_parseStatement_82 (by decide) ?_
            obtain rfl := Option.some.inj h
            exact g_vret hx hb hr hlocks hM hS dX8_parseStatement_92
        · replace h := gif_f c8 h
          refine lv_aload_n hx hb dX8_parseStatement_61 rfl (lv_at hl 0 rfl) ?_
          obtain ⟨q13, hq13, h⟩ := gbind_e h
          refine g_callV (As := []) (rest := []) hx hb (hml.trans hl.1.symm) hown E hM hS hy_X8_parseTest kw_1471 (c_X8_parseTest hq13) hk_60 dd_60 rfl rfl rfl (Nat.le_of_ble_eq_true rfl) ⟨Nat.le_of_ble_eq_true rfl, Nat.le_of_ble_eq_true rfl⟩ ⟨Nat.le_of_ble_eq_true rfl, Nat.le_of_ble_eq_true rfl⟩ dX8_parseStatement_62 (fun H locs hM hS => ?_)
          refine lv_goto (tgt := 92) hx hb dX8_parseStatement_65 (by decide) ?_
          obtain rfl := Option.some.inj h
          exact g_vret hx hb hr hlocks hM hS dX8_parseStatement_92
      · replace h := gif_f c6 h
        refine lv_aload_n hx hb dX8_parseStatement_44 rfl (lv_at hl 0 rfl) ?_
        obtain ⟨q14, hq14, h⟩ := gbind_e h
        refine g_callV (As := []) (rest := []) hx hb (hml.trans hl.1.symm) hown E hM hS hy_X8_parseLine kw_1447 (c_X8_parseLine hq14) hk_60 dd_60 rfl rfl rfl (Nat.le_of_ble_eq_true rfl) ⟨Nat.le_of_ble_eq_true rfl, Nat.le_of_ble_eq_true rfl⟩ ⟨Nat.le_of_ble_eq_true rfl, Nat.le_of_ble_eq_true rfl⟩ dX8_parseStatement_45 (fun H locs hM hS => ?_)
        refine lv_goto (tgt := 92) hx hb dX8_parseStatement_48 (by decide) ?_
        obtain rfl := Option.some.inj h
        exact g_vret hx hb hr hlocks hM hS dX8_parseStatement_92
    · replace h := gif_f c4 h
      refine lv_aload_n hx hb dX8_parseStatement_27 rfl (lv_at hl 0 rfl) ?_
      obtain ⟨q15, hq15, h⟩ := gbind_e h
      refine g_callV (As := []) (rest := []) hx hb (hml.trans hl.1.symm) hown E hM hS hy_X8_parsePoint kw_1442 (c_X8_parsePoint hq15) hk_60 dd_60 rfl rfl rfl (Nat.le_of_ble_eq_true rfl) ⟨Nat.le_of_ble_eq_true rfl, Nat.le_of_ble_eq_true rfl⟩ ⟨Nat.le_of_ble_eq_true rfl, Nat.le_of_ble_eq_true rfl⟩ dX8_parseStatement_28 (fun H locs hM hS => ?_)
      refine lv_goto (tgt := 92) hx hb dX8_parseStatement_31 (by decide) ?_
      obtain rfl := Option.some.inj h
      exact g_vret hx hb hr hlocks hM hS dX8_parseStatement_92
  · replace h := gif_f c2 h
    refine lv_aload_n hx hb dX8_parseStatement_10 rfl (lv_at hl 0 rfl) ?_
    obtain ⟨q16, hq16, h⟩ := gbind_e h
    refine g_callV (As := []) (rest := []) hx hb (hml.trans hl.1.symm) hown E hM hS hy_X8_parseLevel kw_1401 (c_X8_parseLevel hq16) hk_60 dd_60 rfl rfl rfl (Nat.le_of_ble_eq_true rfl) ⟨Nat.le_of_ble_eq_true rfl, Nat.le_of_ble_eq_true rfl⟩ ⟨Nat.le_of_ble_eq_true rfl, Nat.le_of_ble_eq_true rfl⟩ dX8_parseStatement_11 (fun H locs hM hS => ?_)
    refine lv_goto (tgt := 92) hx hb dX8_parseStatement_14 (by decide) ?_
    obtain rfl := Option.some.inj h
    exact g_vret hx hb hr hlocks hM hS dX8_parseStatement_92
def b_X8_reset_62_2 (x1 : Int32) (μ : gM) : Option ((Int32 × gM) ⊕ (gM)) :=
  if ((703 : Int32) ≤ x1) then some (.inr μ) else gchk (gIn x1 703) (some (.inl ((x1 + (1 : Int32)), (si μ 62 x1.toNatClampNeg (0 : Int32)))))
set_option maxHeartbeats 4000000 in
set_option maxRecDepth 100000 in
theorem wb_X8_reset_62_2 {p : Program} {l : Launch} {e : Env} {s : State} {m : MethodId} {args : Array Value} {below : List Frame} {meth : Method} {c : Code} {D : va_G} {cy : Nat → ClassId} {ad : Nat → Nat} {base : Nat} {x1 : Int32} {μ : gM} {o : (Int32 × gM) ⊕ (gM)} {RES : gM} (h : b_X8_reset_62_2 x1 μ = some o) (F : gF p s m meth c cX8_reset RX8 2 none) (E : gEnv l D cy ad base s) (kc : ∀ (t : Int32 × gM) {H : Heap} {locs : List Loc} {ls : Array Slot}, o = .inl t → gW gFull D cy ad base t.2 H → va_S (gA base) s.heap H locs → lv_has ls 2 [(0, .ref (ad 62)), (1, .int t.1)] → W p l e ({ frames := 0, cells := 0, slots := 0, locals := 0 } : Room) s m args below meth c H locs 0 0 (MQ below (gQ none gFull D cy ad base RES) args s 0 0 (gA base)) (F0 m 2 ls [])) (kx : ∀ (t : gM) {H : Heap} {locs : List Loc} {ls : Array Slot}, o = .inr t → gW gFull D cy ad base t H → va_S (gA base) s.heap H locs → lv_has ls 2 [(0, .ref (ad 62))] → W p l e ({ frames := 0, cells := 0, slots := 0, locals := 0 } : Room) s m args below meth c H locs 0 0 (MQ below (gQ none gFull D cy ad base RES) args s 0 0 (gA base)) (F0 m 19 ls []))  {H : Heap} {locs : List Loc} {ls : Array Slot} (hM : gW gFull D cy ad base μ H) (hS : va_S (gA base) s.heap H locs) (hl : lv_has ls 2 [(0, .ref (ad 62)), (1, .int x1)]) : W p l e ({ frames := 0, cells := 0, slots := 0, locals := 0 } : Room) s m args below meth c H locs 0 0 (MQ below (gQ none gFull D cy ad base RES) args s 0 0 (gA base)) (F0 m 2 ls []) := by
  obtain ⟨hx, hb, hml, hown, hlocks, hr⟩ := id F
  unfold b_X8_reset_62_2 at h
  refine lv_iload_n hx hb dX8_reset_2 rfl (lv_at hl 1 rfl) ?_
  refine lv_sipush (v := (703 : Int32)) hx hb dX8_reset_3 (by decide) ?_
  refine lv_icmp_ge (tgt := 19) hx hb dX8_reset_6 (by decide) (fun c1 => ?_) (fun c1 => ?_)
  · replace h := gif_t c1 h
    exact kx _ (Option.some.inj h).symm hM hS (lv_sub hl [0] rfl)
  · replace h := gif_f c1 h
    refine lv_aload_n hx hb dX8_reset_9 rfl (lv_at hl 0 rfl) ?_
    refine lv_iload_n hx hb dX8_reset_10 rfl (lv_at hl 1 rfl) ?_
    refine lv_iconst (v := (0 : Int32)) hx hb dX8_reset_11 (by decide) ?_
    obtain ⟨c2, h⟩ := gchk_e h
    refine g_iast hx hb E hM hS hk_62 dd_62 c2 dX8_reset_12 (fun H locs hM hS => ?_)
    refine lv_iinc (v := (x1 + (1 : Int32))) (lv' := [(1, .int (x1 + (1 : Int32))), (0, .ref (ad 62))]) hx hb dX8_reset_13 hl (k := 1) rfl rfl (by decide) rfl (fun ls hl => ?_)
    refine lv_goto (tgt := 2) hx hb dX8_reset_16 (by decide) ?_
    exact kc _ (Option.some.inj h).symm hM hS (lv_sub hl [1, 0] rfl)
set_option maxHeartbeats 4000000 in
theorem wl_X8_reset_62_2 {p : Program} {l : Launch} {e : Env} {s : State} {m : MethodId} {args : Array Value} {below : List Frame} {meth : Method} {c : Code} {D : va_G} {cy : Nat → ClassId} {ad : Nat → Nat} {base : Nat}  {r : gM} {RES : gM} (F : gF p s m meth c cX8_reset RX8 2 none) (E : gEnv l D cy ad base s) (kx : ∀ (t : gM) {H : Heap} {locs : List Loc} {ls : Array Slot}, r = t → gW gFull D cy ad base t H → va_S (gA base) s.heap H locs → lv_has ls 2 [(0, .ref (ad 62))] → W p l e ({ frames := 0, cells := 0, slots := 0, locals := 0 } : Room) s m args below meth c H locs 0 0 (MQ below (gQ none gFull D cy ad base RES) args s 0 0 (gA base)) (F0 m 19 ls []))  : ∀ (n : Nat) (x1 : Int32) (μ : gM), gloop (fun t => b_X8_reset_62_2  t.1 t.2) n (x1, μ) = some r → ∀ {H : Heap} {locs : List Loc} {ls : Array Slot}, gW gFull D cy ad base μ H → va_S (gA base) s.heap H locs → lv_has ls 2 [(0, .ref (ad 62)), (1, .int x1)] → W p l e ({ frames := 0, cells := 0, slots := 0, locals := 0 } : Room) s m args below meth c H locs 0 0 (MQ below (gQ none gFull D cy ad base RES) args s 0 0 (gA base)) (F0 m 2 ls []) := by
  intro n
  induction n with
  | zero =>
    intro x1 μ h
    exact (gloop_0 h).elim
  | succ n ih =>
    intro x1 μ h H locs ls hM hS hl
    obtain ⟨o, h0, hc, hq⟩ := gloop_s h
    have h1 : b_X8_reset_62_2 x1 μ = some o := h0
    exact wb_X8_reset_62_2 h1 F E (fun t H locs ls ho hM hS hl => ih t.1 t.2 (hc t ho) hM hS hl) (fun t H locs ls ho hM hS hl => kx t (hq _ ho).symm hM hS hl) hM hS hl
def b_X8_reset_62_36 (x1 : Int32) (μ : gM) : Option ((Int32 × gM) ⊕ (gM)) :=
  if ((16 : Int32) ≤ x1) then some (.inr μ) else gchk (gIn ((6 : Int32) + x1) 703) (some (.inl ((x1 + (1 : Int32)), (si μ 62 ((6 : Int32) + x1).toNatClampNeg (-1 : Int32)))))
set_option maxHeartbeats 4000000 in
set_option maxRecDepth 100000 in
theorem wb_X8_reset_62_36 {p : Program} {l : Launch} {e : Env} {s : State} {m : MethodId} {args : Array Value} {below : List Frame} {meth : Method} {c : Code} {D : va_G} {cy : Nat → ClassId} {ad : Nat → Nat} {base : Nat} {x1 : Int32} {μ : gM} {o : (Int32 × gM) ⊕ (gM)} {RES : gM} (h : b_X8_reset_62_36 x1 μ = some o) (F : gF p s m meth c cX8_reset RX8 2 none) (E : gEnv l D cy ad base s) (kc : ∀ (t : Int32 × gM) {H : Heap} {locs : List Loc} {ls : Array Slot}, o = .inl t → gW gFull D cy ad base t.2 H → va_S (gA base) s.heap H locs → lv_has ls 2 [(0, .ref (ad 62)), (1, .int t.1)] → W p l e ({ frames := 0, cells := 0, slots := 0, locals := 0 } : Room) s m args below meth c H locs 0 0 (MQ below (gQ none gFull D cy ad base RES) args s 0 0 (gA base)) (F0 m 36 ls [])) (kx : ∀ (t : gM) {H : Heap} {locs : List Loc} {ls : Array Slot}, o = .inr t → gW gFull D cy ad base t H → va_S (gA base) s.heap H locs → lv_has ls 2 [] → W p l e ({ frames := 0, cells := 0, slots := 0, locals := 0 } : Room) s m args below meth c H locs 0 0 (MQ below (gQ none gFull D cy ad base RES) args s 0 0 (gA base)) (F0 m 55 ls []))  {H : Heap} {locs : List Loc} {ls : Array Slot} (hM : gW gFull D cy ad base μ H) (hS : va_S (gA base) s.heap H locs) (hl : lv_has ls 2 [(0, .ref (ad 62)), (1, .int x1)]) : W p l e ({ frames := 0, cells := 0, slots := 0, locals := 0 } : Room) s m args below meth c H locs 0 0 (MQ below (gQ none gFull D cy ad base RES) args s 0 0 (gA base)) (F0 m 36 ls []) := by
  obtain ⟨hx, hb, hml, hown, hlocks, hr⟩ := id F
  unfold b_X8_reset_62_36 at h
  refine lv_iload_n hx hb dX8_reset_36 rfl (lv_at hl 1 rfl) ?_
  refine lv_bipush (v := (16 : Int32)) hx hb dX8_reset_37 (by decide) ?_
  refine lv_icmp_ge (tgt := 55) hx hb dX8_reset_39 (by decide) (fun c7 => ?_) (fun c7 => ?_)
  · replace h := gif_t c7 h
    exact kx _ (Option.some.inj h).symm hM hS (lv_sub hl [] rfl)
  · replace h := gif_f c7 h
    refine lv_aload_n hx hb dX8_reset_42 rfl (lv_at hl 0 rfl) ?_
    refine lv_bipush (v := (6 : Int32)) hx hb dX8_reset_43 (by decide) ?_
    refine lv_iload_n hx hb dX8_reset_45 rfl (lv_at hl 1 rfl) ?_
    refine lv_iadd hx hb dX8_reset_46 ?_
    refine lv_iconst (v := (-1 : Int32)) hx hb dX8_reset_47 (by decide) ?_
    obtain ⟨c8, h⟩ := gchk_e h
    refine g_iast hx hb E hM hS hk_62 dd_62 c8 dX8_reset_48 (fun H locs hM hS => ?_)
    refine lv_iinc (v := (x1 + (1 : Int32))) (lv' := [(1, .int (x1 + (1 : Int32))), (0, .ref (ad 62))]) hx hb dX8_reset_49 hl (k := 1) rfl rfl (by decide) rfl (fun ls hl => ?_)
    refine lv_goto (tgt := 36) hx hb dX8_reset_52 (by decide) ?_
    exact kc _ (Option.some.inj h).symm hM hS (lv_sub hl [1, 0] rfl)
set_option maxHeartbeats 4000000 in
theorem wl_X8_reset_62_36 {p : Program} {l : Launch} {e : Env} {s : State} {m : MethodId} {args : Array Value} {below : List Frame} {meth : Method} {c : Code} {D : va_G} {cy : Nat → ClassId} {ad : Nat → Nat} {base : Nat}  {r : gM} {RES : gM} (F : gF p s m meth c cX8_reset RX8 2 none) (E : gEnv l D cy ad base s) (kx : ∀ (t : gM) {H : Heap} {locs : List Loc} {ls : Array Slot}, r = t → gW gFull D cy ad base t H → va_S (gA base) s.heap H locs → lv_has ls 2 [] → W p l e ({ frames := 0, cells := 0, slots := 0, locals := 0 } : Room) s m args below meth c H locs 0 0 (MQ below (gQ none gFull D cy ad base RES) args s 0 0 (gA base)) (F0 m 55 ls []))  : ∀ (n : Nat) (x1 : Int32) (μ : gM), gloop (fun t => b_X8_reset_62_36  t.1 t.2) n (x1, μ) = some r → ∀ {H : Heap} {locs : List Loc} {ls : Array Slot}, gW gFull D cy ad base μ H → va_S (gA base) s.heap H locs → lv_has ls 2 [(0, .ref (ad 62)), (1, .int x1)] → W p l e ({ frames := 0, cells := 0, slots := 0, locals := 0 } : Room) s m args below meth c H locs 0 0 (MQ below (gQ none gFull D cy ad base RES) args s 0 0 (gA base)) (F0 m 36 ls []) := by
  intro n
  induction n with
  | zero =>
    intro x1 μ h
    exact (gloop_0 h).elim
  | succ n ih =>
    intro x1 μ h H locs ls hM hS hl
    obtain ⟨o, h0, hc, hq⟩ := gloop_s h
    have h1 : b_X8_reset_62_36 x1 μ = some o := h0
    exact wb_X8_reset_62_36 h1 F E (fun t H locs ls ho hM hS hl => ih t.1 t.2 (hc t ho) hM hS hl) (fun t H locs ls ho hM hS hl => kx t (hq _ ho).symm hM hS hl) hM hS hl
def f_X8_reset_62 (μ : gM) : Option (gM) :=
  Option.bind (gloop (fun t => b_X8_reset_62_2  t.1 t.2) gFuel ((0 : Int32), μ)) (fun q3 => gchk (gIn (0 : Int32) 703) (gchk (gIn (1 : Int32) 703) (gchk (gIn (2 : Int32) 703) (Option.bind (gloop (fun t => b_X8_reset_62_36  t.1 t.2) gFuel ((0 : Int32), (si (si (si q3 62 (0 : Int32).toNatClampNeg (40 : Int32)) 62 (1 : Int32).toNatClampNeg (60 : Int32)) 62 (2 : Int32).toNatClampNeg (20 : Int32)))) (fun q9 => some q9)))))
set_option maxHeartbeats 4000000 in
set_option maxRecDepth 100000 in
theorem c_X8_reset_62 {l : Launch} {D : va_G} {cy : Nat → ClassId} {ad : Nat → Nat} {base : Nat}  {μ : gM} {RES : gM} (h : f_X8_reset_62  μ = some RES) : Met l yX8_reset [.code yX8_reset cX8_reset 2 none] ({ frames := 0, cells := 0, slots := 0, locals := 0 } : Room) (va_Pc [.ref (ad 62)] (gB l gFull D cy ad base μ)) (gQ none gFull D cy ad base RES) 0 0 (gA base) := by
  refine Met.ofW (cc := cX8_reset) (maxL := 2) (ret := none) (by decide) rfl ?_
  intro p e s m args below meth c s₁ B hml0 hv
  obtain ⟨rfl, E, hM⟩ := hv
  have F : gF p s m meth c cX8_reset RX8 2 none := gF_of B hml0
  obtain ⟨hx, hb, hml, hown, hlocks, hr⟩ := id F
  have hS : va_S (gA base) s.heap s.heap [] := va_S.rf
  have hl := lv_entry ([.ref (ad 62)]) (n := 2) (Nat.le_of_ble_eq_true rfl)
  rw [lg_entry_eq]
  generalize (lg_sl ([.ref (ad 62)]) ++ List.replicate (2 - (lg_sl ([.ref (ad 62)])).length) Slot.unset).toArray = ls at hl ⊢
  have hl : lv_has ls 2 [(0, .ref (ad 62))] := hl
  unfold f_X8_reset_62 at h
  refine lv_iconst (v := (0 : Int32)) hx hb dX8_reset_0 (by decide) ?_
  refine lv_istore_n (lv' := [(1, .int (0 : Int32)), (0, .ref (ad 62))]) hx hb dX8_reset_1 rfl hl (by decide) rfl (fun ls hl => ?_)
  obtain ⟨z11, h1, h⟩ := gbind_e h
  refine wl_X8_reset_62_2 F E (r := z11) (fun q3 H locs ls e1 hM hS hl => ?_) gFuel (0 : Int32) μ h1 hM hS (lv_sub hl [1, 0] rfl)
  replace e1 : z11 = q3 := e1
  rw [e1] at h
  refine lv_aload_n hx hb dX8_reset_19 rfl (lv_at hl 0 rfl) ?_
  refine lv_iconst (v := (0 : Int32)) hx hb dX8_reset_20 (by decide) ?_
  refine lv_bipush (v := (40 : Int32)) hx hb dX8_reset_21 (by decide) ?_
  obtain ⟨c4, h⟩ := gchk_e h
  refine g_iast hx hb E hM hS hk_62 dd_62 c4 dX8_reset_23 (fun H locs hM hS => ?_)
  refine lv_aload_n hx hb dX8_reset_24 rfl (lv_at hl 0 rfl) ?_
  refine lv_iconst (v := (1 : Int32)) hx hb dX8_reset_25 (by decide) ?_
  refine lv_bipush (v := (60 : Int32)) hx hb dX8_reset_26 (by decide) ?_
  obtain ⟨c5, h⟩ := gchk_e h
  refine g_iast hx hb E hM hS hk_62 dd_62 c5 dX8_reset_28 (fun H locs hM hS => ?_)
  refine lv_aload_n hx hb dX8_reset_29 rfl (lv_at hl 0 rfl) ?_
  refine lv_iconst (v := (2 : Int32)) hx hb dX8_reset_30 (by decide) ?_
  refine lv_bipush (v := (20 : Int32)) hx hb dX8_reset_31 (by decide) ?_
  obtain ⟨c6, h⟩ := gchk_e h
  refine g_iast hx hb E hM hS hk_62 dd_62 c6 dX8_reset_33 (fun H locs hM hS => ?_)
  refine lv_iconst (v := (0 : Int32)) hx hb dX8_reset_34 (by decide) ?_
  refine lv_istore_n (lv' := [(1, .int (0 : Int32)), (0, .ref (ad 62))]) hx hb dX8_reset_35 rfl hl (by decide) rfl (fun ls hl => ?_)
  obtain ⟨z10, h1, h⟩ := gbind_e h
  refine wl_X8_reset_62_36 F E (r := z10) (fun q9 H locs ls e1 hM hS hl => ?_) gFuel (0 : Int32) (si (si (si q3 62 (0 : Int32).toNatClampNeg (40 : Int32)) 62 (1 : Int32).toNatClampNeg (60 : Int32)) 62 (2 : Int32).toNatClampNeg (20 : Int32)) h1 hM hS (lv_sub hl [1, 0] rfl)
  replace e1 : z10 = q9 := e1
  rw [e1] at h
  obtain rfl := Option.some.inj h
  exact g_vret hx hb hr hlocks hM hS dX8_reset_55
def b_X8_load_59 (x2 : Int32) (μ : gM) : Option ((Int32 × gM) ⊕ (gM)) :=
  if ((137 : Int32) ≤ x2) then some (.inr μ) else gchk (gIn x2 137) (some (.inl ((x2 + (1 : Int32)), (si μ 67 x2.toNatClampNeg (0 : Int32)))))
set_option maxHeartbeats 4000000 in
set_option maxRecDepth 100000 in
theorem wb_X8_load_59 {p : Program} {l : Launch} {e : Env} {s : State} {m : MethodId} {args : Array Value} {below : List Frame} {meth : Method} {c : Code} {D : va_G} {cy : Nat → ClassId} {ad : Nat → Nat} {base : Nat} {x2 : Int32} {μ : gM} {o : (Int32 × gM) ⊕ (gM)} {RES : Int32 × gM} (h : b_X8_load_59 x2 μ = some o) (F : gF p s m meth c cX8_load RX8 3 (some .int)) (E : gEnv l D cy ad base s) (kc : ∀ (t : Int32 × gM) {H : Heap} {locs : List Loc} {ls : Array Slot}, o = .inl t → gW gFull D cy ad base t.2 H → va_S (gA base) s.heap H locs → lv_has ls 3 [(0, .ref (ad 60)), (2, .int t.1)] → W p l e ({ frames := 8, cells := 0, slots := 0, locals := 177 } : Room) s m args below meth c H locs 0 0 (MQ below (gQ (some (.int RES.1)) gFull D cy ad base RES.2) args s 0 0 (gA base)) (F0 m 59 ls [])) (kx : ∀ (t : gM) {H : Heap} {locs : List Loc} {ls : Array Slot}, o = .inr t → gW gFull D cy ad base t H → va_S (gA base) s.heap H locs → lv_has ls 3 [(0, .ref (ad 60))] → W p l e ({ frames := 8, cells := 0, slots := 0, locals := 177 } : Room) s m args below meth c H locs 0 0 (MQ below (gQ (some (.int RES.1)) gFull D cy ad base RES.2) args s 0 0 (gA base)) (F0 m 79 ls []))  {H : Heap} {locs : List Loc} {ls : Array Slot} (hM : gW gFull D cy ad base μ H) (hS : va_S (gA base) s.heap H locs) (hl : lv_has ls 3 [(0, .ref (ad 60)), (2, .int x2)]) : W p l e ({ frames := 8, cells := 0, slots := 0, locals := 177 } : Room) s m args below meth c H locs 0 0 (MQ below (gQ (some (.int RES.1)) gFull D cy ad base RES.2) args s 0 0 (gA base)) (F0 m 59 ls []) := by
  obtain ⟨hx, hb, hml, hown, hlocks, hr⟩ := id F
  unfold b_X8_load_59 at h
  refine lv_iload_n hx hb dX8_load_59 rfl (lv_at hl 1 rfl) ?_
  refine lv_sipush (v := (137 : Int32)) hx hb dX8_load_60 (by decide) ?_
  refine lv_icmp_ge (tgt := 79) hx hb dX8_load_63 (by decide) (fun c4 => ?_) (fun c4 => ?_)
  · replace h := gif_t c4 h
    exact kx _ (Option.some.inj h).symm hM hS (lv_sub hl [0] rfl)
  · replace h := gif_f c4 h
    refine lv_aload_n hx hb dX8_load_66 rfl (lv_at hl 0 rfl) ?_
    refine gg_60_8 hx hb hown E hM hk_60 kw_1250 dX8_load_67 ?_
    refine lv_iload_n hx hb dX8_load_70 rfl (lv_at hl 1 rfl) ?_
    refine lv_iconst (v := (0 : Int32)) hx hb dX8_load_71 (by decide) ?_
    obtain ⟨c5, h⟩ := gchk_e h
    refine g_iast hx hb E hM hS hk_67 dd_67 c5 dX8_load_72 (fun H locs hM hS => ?_)
    refine lv_iinc (v := (x2 + (1 : Int32))) (lv' := [(2, .int (x2 + (1 : Int32))), (0, .ref (ad 60))]) hx hb dX8_load_73 hl (k := 1) rfl rfl (by decide) rfl (fun ls hl => ?_)
    refine lv_goto (tgt := 59) hx hb dX8_load_76 (by decide) ?_
    exact kc _ (Option.some.inj h).symm hM hS (lv_sub hl [1, 0] rfl)
set_option maxHeartbeats 4000000 in
theorem wl_X8_load_59 {p : Program} {l : Launch} {e : Env} {s : State} {m : MethodId} {args : Array Value} {below : List Frame} {meth : Method} {c : Code} {D : va_G} {cy : Nat → ClassId} {ad : Nat → Nat} {base : Nat}  {r : gM} {RES : Int32 × gM} (F : gF p s m meth c cX8_load RX8 3 (some .int)) (E : gEnv l D cy ad base s) (kx : ∀ (t : gM) {H : Heap} {locs : List Loc} {ls : Array Slot}, r = t → gW gFull D cy ad base t H → va_S (gA base) s.heap H locs → lv_has ls 3 [(0, .ref (ad 60))] → W p l e ({ frames := 8, cells := 0, slots := 0, locals := 177 } : Room) s m args below meth c H locs 0 0 (MQ below (gQ (some (.int RES.1)) gFull D cy ad base RES.2) args s 0 0 (gA base)) (F0 m 79 ls []))  : ∀ (n : Nat) (x2 : Int32) (μ : gM), gloop (fun t => b_X8_load_59  t.1 t.2) n (x2, μ) = some r → ∀ {H : Heap} {locs : List Loc} {ls : Array Slot}, gW gFull D cy ad base μ H → va_S (gA base) s.heap H locs → lv_has ls 3 [(0, .ref (ad 60)), (2, .int x2)] → W p l e ({ frames := 8, cells := 0, slots := 0, locals := 177 } : Room) s m args below meth c H locs 0 0 (MQ below (gQ (some (.int RES.1)) gFull D cy ad base RES.2) args s 0 0 (gA base)) (F0 m 59 ls []) := by
  intro n
  induction n with
  | zero =>
    intro x2 μ h
    exact (gloop_0 h).elim
  | succ n ih =>
    intro x2 μ h H locs ls hM hS hl
    obtain ⟨o, h0, hc, hq⟩ := gloop_s h
    have h1 : b_X8_load_59 x2 μ = some o := h0
    exact wb_X8_load_59 h1 F E (fun t H locs ls ho hM hS hl => ih t.1 t.2 (hc t ho) hM hS hl) (fun t H locs ls ho hM hS hl => kx t (hq _ ho).symm hM hS hl) hM hS hl
def j_X8_load_115 (y1 : Int32) (μ : gM) : Option ((gM) ⊕ (gM)) :=
  Option.bind (f_X8_check y1 (-11 : Int32) μ) (fun q12 => Option.bind (f_X8_advanceIfGood  q12) (fun q13 => some (.inl (si q13 60 20 ((gi q13 60 20) + (1 : Int32))))))
set_option maxHeartbeats 4000000 in
set_option maxRecDepth 100000 in
theorem wj_X8_load_115 {p : Program} {l : Launch} {e : Env} {s : State} {m : MethodId} {args : Array Value} {below : List Frame} {meth : Method} {c : Code} {D : va_G} {cy : Nat → ClassId} {ad : Nat → Nat} {base : Nat} {y1 : Int32} {μ : gM} {o : (gM) ⊕ (gM)} {RES : Int32 × gM} (h : j_X8_load_115 y1 μ = some o) (F : gF p s m meth c cX8_load RX8 3 (some .int)) (E : gEnv l D cy ad base s) (kc : ∀ (t : gM) {H : Heap} {locs : List Loc} {ls : Array Slot}, o = .inl t → gW gFull D cy ad base t H → va_S (gA base) s.heap H locs → lv_has ls 3 [(0, .ref (ad 60))] → W p l e ({ frames := 8, cells := 0, slots := 0, locals := 177 } : Room) s m args below meth c H locs 0 0 (MQ below (gQ (some (.int RES.1)) gFull D cy ad base RES.2) args s 0 0 (gA base)) (F0 m 83 ls [])) (kx : ∀ (t : gM) {H : Heap} {locs : List Loc} {ls : Array Slot}, o = .inr t → gW gFull D cy ad base t H → va_S (gA base) s.heap H locs → lv_has ls 3 [(0, .ref (ad 60))] → W p l e ({ frames := 8, cells := 0, slots := 0, locals := 177 } : Room) s m args below meth c H locs 0 0 (MQ below (gQ (some (.int RES.1)) gFull D cy ad base RES.2) args s 0 0 (gA base)) (F0 m 137 ls []))  {H : Heap} {locs : List Loc} {ls : Array Slot} (hM : gW gFull D cy ad base μ H) (hS : va_S (gA base) s.heap H locs) (hl : lv_has ls 3 [(0, .ref (ad 60))]) : W p l e ({ frames := 8, cells := 0, slots := 0, locals := 177 } : Room) s m args below meth c H locs 0 0 (MQ below (gQ (some (.int RES.1)) gFull D cy ad base RES.2) args s 0 0 (gA base)) (F0 m 115 ls [.int y1, .ref (ad 60)]) := by
  obtain ⟨hx, hb, hml, hown, hlocks, hr⟩ := id F
  unfold j_X8_load_115 at h
  refine lv_bipush (v := (-11 : Int32)) hx hb dX8_load_115 (by decide) ?_
  obtain ⟨q12, hq12, h⟩ := gbind_e h
  refine g_callV (As := [.int y1, .int (-11 : Int32)]) (rest := []) hx hb (hml.trans hl.1.symm) hown E hM hS hy_X8_check kw_1409 (c_X8_check hq12) hk_60 dd_60 rfl rfl rfl (Nat.le_of_ble_eq_true rfl) ⟨Nat.le_of_ble_eq_true rfl, Nat.le_of_ble_eq_true rfl⟩ ⟨Nat.le_of_ble_eq_true rfl, Nat.le_of_ble_eq_true rfl⟩ dX8_load_117 (fun H locs hM hS => ?_)
  refine lv_aload_n hx hb dX8_load_120 rfl (lv_at hl 0 rfl) ?_
  obtain ⟨q13, hq13, h⟩ := gbind_e h
  refine g_callV (As := []) (rest := []) hx hb (hml.trans hl.1.symm) hown E hM hS hy_X8_advanceIfGood kw_1413 (c_X8_advanceIfGood hq13) hk_60 dd_60 rfl rfl rfl (Nat.le_of_ble_eq_true rfl) ⟨Nat.le_of_ble_eq_true rfl, Nat.le_of_ble_eq_true rfl⟩ ⟨Nat.le_of_ble_eq_true rfl, Nat.le_of_ble_eq_true rfl⟩ dX8_load_121 (fun H locs hM hS => ?_)
  refine lv_aload_n hx hb dX8_load_124 rfl (lv_at hl 0 rfl) ?_
  refine lv_dup hx hb dX8_load_125 rfl ?_
  refine gg_60_20 hx hb hown E hM hk_60 kw_1262 dX8_load_126 ?_
  refine lv_iconst (v := (1 : Int32)) hx hb dX8_load_129 (by decide) ?_
  refine lv_iadd hx hb dX8_load_130 ?_
  refine gp_60_20 hx hb hown E hM hS hk_60 kw_1262 dX8_load_131 (fun H locs hM hS => ?_)
  refine lv_goto (tgt := 83) hx hb dX8_load_134 (by decide) ?_
  exact kc _ (Option.some.inj h).symm hM hS hl
def b_X8_load_83  (μ : gM) : Option ((gM) ⊕ (gM)) :=
  if ((gi μ 60 17) = 0) then if ((gi μ 60 14) = 0) then some (.inr μ) else Option.bind (f_X8_parseStatement  μ) (fun q10 => if ((gi q10 60 14) = (3 : Int32)) then j_X8_load_115 (1 : Int32) q10 else j_X8_load_115 (0 : Int32) q10) else some (.inr μ)
set_option maxHeartbeats 4000000 in
set_option maxRecDepth 100000 in
theorem wb_X8_load_83 {p : Program} {l : Launch} {e : Env} {s : State} {m : MethodId} {args : Array Value} {below : List Frame} {meth : Method} {c : Code} {D : va_G} {cy : Nat → ClassId} {ad : Nat → Nat} {base : Nat}  {μ : gM} {o : (gM) ⊕ (gM)} {RES : Int32 × gM} (h : b_X8_load_83  μ = some o) (F : gF p s m meth c cX8_load RX8 3 (some .int)) (E : gEnv l D cy ad base s) (kc : ∀ (t : gM) {H : Heap} {locs : List Loc} {ls : Array Slot}, o = .inl t → gW gFull D cy ad base t H → va_S (gA base) s.heap H locs → lv_has ls 3 [(0, .ref (ad 60))] → W p l e ({ frames := 8, cells := 0, slots := 0, locals := 177 } : Room) s m args below meth c H locs 0 0 (MQ below (gQ (some (.int RES.1)) gFull D cy ad base RES.2) args s 0 0 (gA base)) (F0 m 83 ls [])) (kx : ∀ (t : gM) {H : Heap} {locs : List Loc} {ls : Array Slot}, o = .inr t → gW gFull D cy ad base t H → va_S (gA base) s.heap H locs → lv_has ls 3 [(0, .ref (ad 60))] → W p l e ({ frames := 8, cells := 0, slots := 0, locals := 177 } : Room) s m args below meth c H locs 0 0 (MQ below (gQ (some (.int RES.1)) gFull D cy ad base RES.2) args s 0 0 (gA base)) (F0 m 137 ls []))  {H : Heap} {locs : List Loc} {ls : Array Slot} (hM : gW gFull D cy ad base μ H) (hS : va_S (gA base) s.heap H locs) (hl : lv_has ls 3 [(0, .ref (ad 60))]) : W p l e ({ frames := 8, cells := 0, slots := 0, locals := 177 } : Room) s m args below meth c H locs 0 0 (MQ below (gQ (some (.int RES.1)) gFull D cy ad base RES.2) args s 0 0 (gA base)) (F0 m 83 ls []) := by
  obtain ⟨hx, hb, hml, hown, hlocks, hr⟩ := id F
  unfold b_X8_load_83 at h
  refine lv_aload_n hx hb dX8_load_83 rfl (lv_at hl 0 rfl) ?_
  refine gg_60_17 hx hb hown E hM hk_60 kw_1259 dX8_load_84 ?_
  refine lv_if_ne (tgt := 137) hx hb dX8_load_87 (by decide) (fun c8 => ?_) (fun c8 => ?_)
  · replace h := gif_f c8 h
    exact kx _ (Option.some.inj h).symm hM hS hl
  · replace h := gif_t c8 h
    refine lv_aload_n hx hb dX8_load_90 rfl (lv_at hl 0 rfl) ?_
    refine gg_60_14 hx hb hown E hM hk_60 kw_1256 dX8_load_91 ?_
    refine lv_if_eq (tgt := 137) hx hb dX8_load_94 (by decide) (fun c9 => ?_) (fun c9 => ?_)
    · replace h := gif_t c9 h
      exact kx _ (Option.some.inj h).symm hM hS hl
    · replace h := gif_f c9 h
      refine lv_aload_n hx hb dX8_load_97 rfl (lv_at hl 0 rfl) ?_
      obtain ⟨q10, hq10, h⟩ := gbind_e h
      refine g_callV (As := []) (rest := []) hx hb (hml.trans hl.1.symm) hown E hM hS hy_X8_parseStatement kw_1392 (c_X8_parseStatement hq10) hk_60 dd_60 rfl rfl rfl (Nat.le_of_ble_eq_true rfl) ⟨Nat.le_of_ble_eq_true rfl, Nat.le_of_ble_eq_true rfl⟩ ⟨Nat.le_of_ble_eq_true rfl, Nat.le_of_ble_eq_true rfl⟩ dX8_load_98 (fun H locs hM hS => ?_)
      refine lv_aload_n hx hb dX8_load_101 rfl (lv_at hl 0 rfl) ?_
      refine lv_aload_n hx hb dX8_load_102 rfl (lv_at hl 0 rfl) ?_
      refine gg_60_14 hx hb hown E hM hk_60 kw_1256 dX8_load_103 ?_
      refine lv_iconst (v := (3 : Int32)) hx hb dX8_load_106 (by decide) ?_
      refine lv_icmp_ne (tgt := 114) hx hb dX8_load_107 (by decide) (fun c11 => ?_) (fun c11 => ?_)
      · replace h := gif_f c11 h
        refine lv_iconst (v := (0 : Int32)) hx hb dX8_load_114 (by decide) ?_
        exact wj_X8_load_115 h F E kc kx hM hS hl
      · replace h := gif_t c11 h
        refine lv_iconst (v := (1 : Int32)) hx hb dX8_load_110 (by decide) ?_
        refine lv_goto (tgt := 115) hx hb dX8_load_111 (by decide) ?_
        exact wj_X8_load_115 h F E kc kx hM hS hl
set_option maxHeartbeats 4000000 in
theorem wl_X8_load_83 {p : Program} {l : Launch} {e : Env} {s : State} {m : MethodId} {args : Array Value} {below : List Frame} {meth : Method} {c : Code} {D : va_G} {cy : Nat → ClassId} {ad : Nat → Nat} {base : Nat}  {r : gM} {RES : Int32 × gM} (F : gF p s m meth c cX8_load RX8 3 (some .int)) (E : gEnv l D cy ad base s) (kx : ∀ (t : gM) {H : Heap} {locs : List Loc} {ls : Array Slot}, r = t → gW gFull D cy ad base t H → va_S (gA base) s.heap H locs → lv_has ls 3 [(0, .ref (ad 60))] → W p l e ({ frames := 8, cells := 0, slots := 0, locals := 177 } : Room) s m args below meth c H locs 0 0 (MQ below (gQ (some (.int RES.1)) gFull D cy ad base RES.2) args s 0 0 (gA base)) (F0 m 137 ls []))  : ∀ (n : Nat)  (μ : gM), gloop (fun t => b_X8_load_83   t) n μ = some r → ∀ {H : Heap} {locs : List Loc} {ls : Array Slot}, gW gFull D cy ad base μ H → va_S (gA base) s.heap H locs → lv_has ls 3 [(0, .ref (ad 60))] → W p l e ({ frames := 8, cells := 0, slots := 0, locals := 177 } : Room) s m args below meth c H locs 0 0 (MQ below (gQ (some (.int RES.1)) gFull D cy ad base RES.2) args s 0 0 (gA base)) (F0 m 83 ls []) := by
  intro n
  induction n with
  | zero =>
    intro μ h
    exact (gloop_0 h).elim
  | succ n ih =>
    intro μ h H locs ls hM hS hl
    obtain ⟨o, h0, hc, hq⟩ := gloop_s h
    have h1 : b_X8_load_83  μ = some o := h0
    exact wb_X8_load_83 h1 F E (fun t H locs ls ho hM hS hl => ih t (hc t ho) hM hS hl) (fun t H locs ls ho hM hS hl => kx t (hq _ ho).symm hM hS hl) hM hS hl
def b_X8_load_156 (x2 : Int32) (μ : gM) : Option ((Int32 × gM) ⊕ (gM)) :=
  if ((703 : Int32) ≤ x2) then some (.inr μ) else gchk (gIn x2 703) (gchk (gIn x2 703) (some (.inl ((x2 + (1 : Int32)), (si μ 61 x2.toNatClampNeg (gi μ 62 x2.toNatClampNeg))))))
set_option maxHeartbeats 4000000 in
set_option maxRecDepth 100000 in
theorem wb_X8_load_156 {p : Program} {l : Launch} {e : Env} {s : State} {m : MethodId} {args : Array Value} {below : List Frame} {meth : Method} {c : Code} {D : va_G} {cy : Nat → ClassId} {ad : Nat → Nat} {base : Nat} {x2 : Int32} {μ : gM} {o : (Int32 × gM) ⊕ (gM)} {RES : Int32 × gM} (h : b_X8_load_156 x2 μ = some o) (F : gF p s m meth c cX8_load RX8 3 (some .int)) (E : gEnv l D cy ad base s) (kc : ∀ (t : Int32 × gM) {H : Heap} {locs : List Loc} {ls : Array Slot}, o = .inl t → gW gFull D cy ad base t.2 H → va_S (gA base) s.heap H locs → lv_has ls 3 [(0, .ref (ad 60)), (2, .int t.1)] → W p l e ({ frames := 8, cells := 0, slots := 0, locals := 177 } : Room) s m args below meth c H locs 0 0 (MQ below (gQ (some (.int RES.1)) gFull D cy ad base RES.2) args s 0 0 (gA base)) (F0 m 156 ls [])) (kx : ∀ (t : gM) {H : Heap} {locs : List Loc} {ls : Array Slot}, o = .inr t → gW gFull D cy ad base t H → va_S (gA base) s.heap H locs → lv_has ls 3 [(0, .ref (ad 60))] → W p l e ({ frames := 8, cells := 0, slots := 0, locals := 177 } : Room) s m args below meth c H locs 0 0 (MQ below (gQ (some (.int RES.1)) gFull D cy ad base RES.2) args s 0 0 (gA base)) (F0 m 181 ls []))  {H : Heap} {locs : List Loc} {ls : Array Slot} (hM : gW gFull D cy ad base μ H) (hS : va_S (gA base) s.heap H locs) (hl : lv_has ls 3 [(0, .ref (ad 60)), (2, .int x2)]) : W p l e ({ frames := 8, cells := 0, slots := 0, locals := 177 } : Room) s m args below meth c H locs 0 0 (MQ below (gQ (some (.int RES.1)) gFull D cy ad base RES.2) args s 0 0 (gA base)) (F0 m 156 ls []) := by
  obtain ⟨hx, hb, hml, hown, hlocks, hr⟩ := id F
  unfold b_X8_load_156 at h
  refine lv_iload_n hx hb dX8_load_156 rfl (lv_at hl 1 rfl) ?_
  refine lv_sipush (v := (703 : Int32)) hx hb dX8_load_157 (by decide) ?_
  refine lv_icmp_ge (tgt := 181) hx hb dX8_load_160 (by decide) (fun c16 => ?_) (fun c16 => ?_)
  · replace h := gif_t c16 h
    exact kx _ (Option.some.inj h).symm hM hS (lv_sub hl [0] rfl)
  · replace h := gif_f c16 h
    refine lv_aload_n hx hb dX8_load_163 rfl (lv_at hl 0 rfl) ?_
    refine gg_60_0 hx hb hown E hM hk_60 kw_1242 dX8_load_164 ?_
    refine lv_iload_n hx hb dX8_load_167 rfl (lv_at hl 1 rfl) ?_
    refine lv_aload_n hx hb dX8_load_168 rfl (lv_at hl 0 rfl) ?_
    refine gg_60_1 hx hb hown E hM hk_60 kw_1243 dX8_load_169 ?_
    refine lv_iload_n hx hb dX8_load_172 rfl (lv_at hl 1 rfl) ?_
    obtain ⟨c17, h⟩ := gchk_e h
    refine g_iald hx hb E hM hk_62 dd_62 c17 dX8_load_173 ?_
    obtain ⟨c18, h⟩ := gchk_e h
    refine g_iast hx hb E hM hS hk_61 dd_61 c18 dX8_load_174 (fun H locs hM hS => ?_)
    refine lv_iinc (v := (x2 + (1 : Int32))) (lv' := [(2, .int (x2 + (1 : Int32))), (0, .ref (ad 60))]) hx hb dX8_load_175 hl (k := 1) rfl rfl (by decide) rfl (fun ls hl => ?_)
    refine lv_goto (tgt := 156) hx hb dX8_load_178 (by decide) ?_
    exact kc _ (Option.some.inj h).symm hM hS (lv_sub hl [1, 0] rfl)
set_option maxHeartbeats 4000000 in
theorem wl_X8_load_156 {p : Program} {l : Launch} {e : Env} {s : State} {m : MethodId} {args : Array Value} {below : List Frame} {meth : Method} {c : Code} {D : va_G} {cy : Nat → ClassId} {ad : Nat → Nat} {base : Nat}  {r : gM} {RES : Int32 × gM} (F : gF p s m meth c cX8_load RX8 3 (some .int)) (E : gEnv l D cy ad base s) (kx : ∀ (t : gM) {H : Heap} {locs : List Loc} {ls : Array Slot}, r = t → gW gFull D cy ad base t H → va_S (gA base) s.heap H locs → lv_has ls 3 [(0, .ref (ad 60))] → W p l e ({ frames := 8, cells := 0, slots := 0, locals := 177 } : Room) s m args below meth c H locs 0 0 (MQ below (gQ (some (.int RES.1)) gFull D cy ad base RES.2) args s 0 0 (gA base)) (F0 m 181 ls []))  : ∀ (n : Nat) (x2 : Int32) (μ : gM), gloop (fun t => b_X8_load_156  t.1 t.2) n (x2, μ) = some r → ∀ {H : Heap} {locs : List Loc} {ls : Array Slot}, gW gFull D cy ad base μ H → va_S (gA base) s.heap H locs → lv_has ls 3 [(0, .ref (ad 60)), (2, .int x2)] → W p l e ({ frames := 8, cells := 0, slots := 0, locals := 177 } : Room) s m args below meth c H locs 0 0 (MQ below (gQ (some (.int RES.1)) gFull D cy ad base RES.2) args s 0 0 (gA base)) (F0 m 156 ls []) := by
  intro n
  induction n with
  | zero =>
    intro x2 μ h
    exact (gloop_0 h).elim
  | succ n ih =>
    intro x2 μ h H locs ls hM hS hl
    obtain ⟨o, h0, hc, hq⟩ := gloop_s h
    have h1 : b_X8_load_156 x2 μ = some o := h0
    exact wb_X8_load_156 h1 F E (fun t H locs ls ho hM hS hl => ih t.1 t.2 (hc t ho) hM hS hl) (fun t H locs ls ho hM hS hl => kx t (hq _ ho).symm hM hS hl) hM hS hl
def b_X8_load_183 (x2 : Int32) (μ : gM) : Option ((Int32 × gM) ⊕ (gM)) :=
  if ((137 : Int32) ≤ x2) then some (.inr μ) else gchk (gIn x2 137) (gchk (gIn x2 137) (some (.inl ((x2 + (1 : Int32)), (si μ 66 x2.toNatClampNeg (gi μ 67 x2.toNatClampNeg))))))
set_option maxHeartbeats 4000000 in
set_option maxRecDepth 100000 in
theorem wb_X8_load_183 {p : Program} {l : Launch} {e : Env} {s : State} {m : MethodId} {args : Array Value} {below : List Frame} {meth : Method} {c : Code} {D : va_G} {cy : Nat → ClassId} {ad : Nat → Nat} {base : Nat} {x2 : Int32} {μ : gM} {o : (Int32 × gM) ⊕ (gM)} {RES : Int32 × gM} (h : b_X8_load_183 x2 μ = some o) (F : gF p s m meth c cX8_load RX8 3 (some .int)) (E : gEnv l D cy ad base s) (kc : ∀ (t : Int32 × gM) {H : Heap} {locs : List Loc} {ls : Array Slot}, o = .inl t → gW gFull D cy ad base t.2 H → va_S (gA base) s.heap H locs → lv_has ls 3 [(0, .ref (ad 60)), (2, .int t.1)] → W p l e ({ frames := 8, cells := 0, slots := 0, locals := 177 } : Room) s m args below meth c H locs 0 0 (MQ below (gQ (some (.int RES.1)) gFull D cy ad base RES.2) args s 0 0 (gA base)) (F0 m 183 ls [])) (kx : ∀ (t : gM) {H : Heap} {locs : List Loc} {ls : Array Slot}, o = .inr t → gW gFull D cy ad base t H → va_S (gA base) s.heap H locs → lv_has ls 3 [(0, .ref (ad 60))] → W p l e ({ frames := 8, cells := 0, slots := 0, locals := 177 } : Room) s m args below meth c H locs 0 0 (MQ below (gQ (some (.int RES.1)) gFull D cy ad base RES.2) args s 0 0 (gA base)) (F0 m 208 ls []))  {H : Heap} {locs : List Loc} {ls : Array Slot} (hM : gW gFull D cy ad base μ H) (hS : va_S (gA base) s.heap H locs) (hl : lv_has ls 3 [(0, .ref (ad 60)), (2, .int x2)]) : W p l e ({ frames := 8, cells := 0, slots := 0, locals := 177 } : Room) s m args below meth c H locs 0 0 (MQ below (gQ (some (.int RES.1)) gFull D cy ad base RES.2) args s 0 0 (gA base)) (F0 m 183 ls []) := by
  obtain ⟨hx, hb, hml, hown, hlocks, hr⟩ := id F
  unfold b_X8_load_183 at h
  refine lv_iload_n hx hb dX8_load_183 rfl (lv_at hl 1 rfl) ?_
  refine lv_sipush (v := (137 : Int32)) hx hb dX8_load_184 (by decide) ?_
  refine lv_icmp_ge (tgt := 208) hx hb dX8_load_187 (by decide) (fun c20 => ?_) (fun c20 => ?_)
  · replace h := gif_t c20 h
    exact kx _ (Option.some.inj h).symm hM hS (lv_sub hl [0] rfl)
  · replace h := gif_f c20 h
    refine lv_aload_n hx hb dX8_load_190 rfl (lv_at hl 0 rfl) ?_
    refine gg_60_7 hx hb hown E hM hk_60 kw_1249 dX8_load_191 ?_
    refine lv_iload_n hx hb dX8_load_194 rfl (lv_at hl 1 rfl) ?_
    refine lv_aload_n hx hb dX8_load_195 rfl (lv_at hl 0 rfl) ?_
    refine gg_60_8 hx hb hown E hM hk_60 kw_1250 dX8_load_196 ?_
    refine lv_iload_n hx hb dX8_load_199 rfl (lv_at hl 1 rfl) ?_
    obtain ⟨c21, h⟩ := gchk_e h
    refine g_iald hx hb E hM hk_67 dd_67 c21 dX8_load_200 ?_
    obtain ⟨c22, h⟩ := gchk_e h
    refine g_iast hx hb E hM hS hk_66 dd_66 c22 dX8_load_201 (fun H locs hM hS => ?_)
    refine lv_iinc (v := (x2 + (1 : Int32))) (lv' := [(2, .int (x2 + (1 : Int32))), (0, .ref (ad 60))]) hx hb dX8_load_202 hl (k := 1) rfl rfl (by decide) rfl (fun ls hl => ?_)
    refine lv_goto (tgt := 183) hx hb dX8_load_205 (by decide) ?_
    exact kc _ (Option.some.inj h).symm hM hS (lv_sub hl [1, 0] rfl)
set_option maxHeartbeats 4000000 in
theorem wl_X8_load_183 {p : Program} {l : Launch} {e : Env} {s : State} {m : MethodId} {args : Array Value} {below : List Frame} {meth : Method} {c : Code} {D : va_G} {cy : Nat → ClassId} {ad : Nat → Nat} {base : Nat}  {r : gM} {RES : Int32 × gM} (F : gF p s m meth c cX8_load RX8 3 (some .int)) (E : gEnv l D cy ad base s) (kx : ∀ (t : gM) {H : Heap} {locs : List Loc} {ls : Array Slot}, r = t → gW gFull D cy ad base t H → va_S (gA base) s.heap H locs → lv_has ls 3 [(0, .ref (ad 60))] → W p l e ({ frames := 8, cells := 0, slots := 0, locals := 177 } : Room) s m args below meth c H locs 0 0 (MQ below (gQ (some (.int RES.1)) gFull D cy ad base RES.2) args s 0 0 (gA base)) (F0 m 208 ls []))  : ∀ (n : Nat) (x2 : Int32) (μ : gM), gloop (fun t => b_X8_load_183  t.1 t.2) n (x2, μ) = some r → ∀ {H : Heap} {locs : List Loc} {ls : Array Slot}, gW gFull D cy ad base μ H → va_S (gA base) s.heap H locs → lv_has ls 3 [(0, .ref (ad 60)), (2, .int x2)] → W p l e ({ frames := 8, cells := 0, slots := 0, locals := 177 } : Room) s m args below meth c H locs 0 0 (MQ below (gQ (some (.int RES.1)) gFull D cy ad base RES.2) args s 0 0 (gA base)) (F0 m 183 ls []) := by
  intro n
  induction n with
  | zero =>
    intro x2 μ h
    exact (gloop_0 h).elim
  | succ n ih =>
    intro x2 μ h H locs ls hM hS hl
    obtain ⟨o, h0, hc, hq⟩ := gloop_s h
    have h1 : b_X8_load_183 x2 μ = some o := h0
    exact wb_X8_load_183 h1 F E (fun t H locs ls ho hM hS hl => ih t.1 t.2 (hc t ho) hM hS hl) (fun t H locs ls ho hM hS hl => kx t (hq _ ho).symm hM hS hl) hM hS hl
def j_X8_load_137  (μ : gM) : Option (Int32 × gM) :=
  if ((gi (si μ 60 10 (0 : Int32)) 60 17) = 0) then Option.bind (gloop (fun t => b_X8_load_156  t.1 t.2) gFuel ((0 : Int32), (si μ 60 10 (0 : Int32)))) (fun q19 => Option.bind (gloop (fun t => b_X8_load_183  t.1 t.2) gFuel ((0 : Int32), q19)) (fun q23 => some ((gi (si q23 60 5 (0 : Int32)) 60 20), (si q23 60 5 (0 : Int32))))) else some ((gi (si μ 60 10 (0 : Int32)) 60 17), (si μ 60 10 (0 : Int32)))
set_option maxHeartbeats 4000000 in
set_option maxRecDepth 100000 in
theorem wj_X8_load_137 {p : Program} {l : Launch} {e : Env} {s : State} {m : MethodId} {args : Array Value} {below : List Frame} {meth : Method} {c : Code} {D : va_G} {cy : Nat → ClassId} {ad : Nat → Nat} {base : Nat}  {μ : gM} {o : Int32 × gM} (h : j_X8_load_137  μ = some o) (F : gF p s m meth c cX8_load RX8 3 (some .int)) (E : gEnv l D cy ad base s)  {H : Heap} {locs : List Loc} {ls : Array Slot} (hM : gW gFull D cy ad base μ H) (hS : va_S (gA base) s.heap H locs) (hl : lv_has ls 3 [(0, .ref (ad 60))]) : W p l e ({ frames := 8, cells := 0, slots := 0, locals := 177 } : Room) s m args below meth c H locs 0 0 (MQ below (gQ (some (.int o.1)) gFull D cy ad base o.2) args s 0 0 (gA base)) (F0 m 137 ls []) := by
  obtain ⟨hx, hb, hml, hown, hlocks, hr⟩ := id F
  unfold j_X8_load_137 at h
  refine lv_aload_n hx hb dX8_load_137 rfl (lv_at hl 0 rfl) ?_
  refine lv_iconst (v := (0 : Int32)) hx hb dX8_load_138 (by decide) ?_
  refine gp_60_10 hx hb hown E hM hS hk_60 kw_1252 dX8_load_139 (fun H locs hM hS => ?_)
  refine lv_aload_n hx hb dX8_load_142 rfl (lv_at hl 0 rfl) ?_
  refine gg_60_17 hx hb hown E hM hk_60 kw_1259 dX8_load_143 ?_
  refine lv_if_eq (tgt := 154) hx hb dX8_load_146 (by decide) (fun c15 => ?_) (fun c15 => ?_)
  · replace h := gif_t c15 h
    refine lv_iconst (v := (0 : Int32)) hx hb dX8_load_154 (by decide) ?_
    refine lv_istore_n (lv' := [(2, .int (0 : Int32)), (0, .ref (ad 60))]) hx hb dX8_load_155 rfl hl (by decide) rfl (fun ls hl => ?_)
    obtain ⟨z25, h1, h⟩ := gbind_e h
    refine wl_X8_load_156 F E (r := z25) (fun q19 H locs ls e1 hM hS hl => ?_) gFuel (0 : Int32) (si μ 60 10 (0 : Int32)) h1 hM hS (lv_sub hl [1, 0] rfl)
    replace e1 : z25 = q19 := e1
    rw [e1] at h
    refine lv_iconst (v := (0 : Int32)) hx hb dX8_load_181 (by decide) ?_
    refine lv_istore_n (lv' := [(2, .int (0 : Int32)), (0, .ref (ad 60))]) hx hb dX8_load_182 rfl hl (by decide) rfl (fun ls hl => ?_)
    obtain ⟨z24, h1, h⟩ := gbind_e h
    refine wl_X8_load_183 F E (r := z24) (fun q23 H locs ls e1 hM hS hl => ?_) gFuel (0 : Int32) q19 h1 hM hS (lv_sub hl [1, 0] rfl)
    replace e1 : z24 = q23 := e1
    rw [e1] at h
    refine lv_aload_n hx hb dX8_load_208 rfl (lv_at hl 0 rfl) ?_
    refine lv_iconst (v := (0 : Int32)) hx hb dX8_load_209 (by decide) ?_
    refine gp_60_5 hx hb hown E hM hS hk_60 kw_1247 dX8_load_210 (fun H locs hM hS => ?_)
    refine lv_aload_n hx hb dX8_load_213 rfl (lv_at hl 0 rfl) ?_
    refine gg_60_20 hx hb hown E hM hk_60 kw_1262 dX8_load_214 ?_
    obtain rfl := Option.some.inj h
    exact g_iret hx hb hr hlocks hM hS dX8_load_217
  · replace h := gif_f c15 h
    refine lv_aload_n hx hb dX8_load_149 rfl (lv_at hl 0 rfl) ?_
    refine gg_60_17 hx hb hown E hM hk_60 kw_1259 dX8_load_150 ?_
    obtain rfl := Option.some.inj h
    exact g_iret hx hb hr hlocks hM hS dX8_load_153
def f_X8_load (p1 : Int32) (μ : gM) : Option (Int32 × gM) :=
  Option.bind (f_X8_inRange p1 (0 : Int32) (gi (si μ 60 6 (0 : Int32)) 60 10) (si μ 60 6 (0 : Int32))) (fun q1 => if ((b2i q1) = 0) then some ((-2 : Int32), (si μ 60 6 (0 : Int32))) else Option.bind (f_X8_reset_62  (si (si (si (si (si (si (si μ 60 6 (0 : Int32)) 60 11 p1) 60 12 (0 : Int32)) 60 17 (0 : Int32)) 60 18 (-1 : Int32)) 60 19 (0 : Int32)) 60 20 (0 : Int32))) (fun q3 => Option.bind (gloop (fun t => b_X8_load_59  t.1 t.2) gFuel ((0 : Int32), q3)) (fun q6 => Option.bind (f_X8_advance  q6) (fun q7 => Option.bind (gloop (fun t => b_X8_load_83   t) gFuel q7) (fun q14 => j_X8_load_137  q14)))))
set_option maxHeartbeats 4000000 in
set_option maxRecDepth 100000 in
theorem c_X8_load {l : Launch} {D : va_G} {cy : Nat → ClassId} {ad : Nat → Nat} {base : Nat} {p1 : Int32} {μ : gM} {RES : Int32 × gM} (h : f_X8_load p1 μ = some RES) : Met l yX8_load [.code yX8_load cX8_load 3 (some .int)] ({ frames := 8, cells := 0, slots := 0, locals := 177 } : Room) (va_Pc [.ref (ad 60), .int p1] (gB l gFull D cy ad base μ)) (gQ (some (.int RES.1)) gFull D cy ad base RES.2) 0 0 (gA base) := by
  refine Met.ofW (cc := cX8_load) (maxL := 3) (ret := (some .int)) (by decide) rfl ?_
  intro p e s m args below meth c s₁ B hml0 hv
  obtain ⟨rfl, E, hM⟩ := hv
  have F : gF p s m meth c cX8_load RX8 3 (some .int) := gF_of B hml0
  obtain ⟨hx, hb, hml, hown, hlocks, hr⟩ := id F
  have hS : va_S (gA base) s.heap s.heap [] := va_S.rf
  have hl := lv_entry ([.ref (ad 60), .int p1]) (n := 3) (Nat.le_of_ble_eq_true rfl)
  rw [lg_entry_eq]
  generalize (lg_sl ([.ref (ad 60), .int p1]) ++ List.replicate (3 - (lg_sl ([.ref (ad 60), .int p1])).length) Slot.unset).toArray = ls at hl ⊢
  have hl : lv_has ls 3 [(0, .ref (ad 60)), (1, .int p1)] := hl
  unfold f_X8_load at h
  refine lv_aload_n hx hb dX8_load_0 rfl (lv_at hl 0 rfl) ?_
  refine lv_iconst (v := (0 : Int32)) hx hb dX8_load_1 (by decide) ?_
  refine gp_60_6 hx hb hown E hM hS hk_60 kw_1248 dX8_load_2 (fun H locs hM hS => ?_)
  refine lv_iload_n hx hb dX8_load_5 rfl (lv_at hl 1 rfl) ?_
  refine lv_iconst (v := (0 : Int32)) hx hb dX8_load_6 (by decide) ?_
  refine lv_aload_n hx hb dX8_load_7 rfl (lv_at hl 0 rfl) ?_
  refine gg_60_10 hx hb hown E hM hk_60 kw_1252 dX8_load_8 ?_
  obtain ⟨q1, hq1, h⟩ := gbind_e h
  refine g_callS (As := [.int p1, .int (0 : Int32), .int (gi (si μ 60 6 (0 : Int32)) 60 10)]) (rest := []) hx hb (hml.trans hl.1.symm) hown E hM hS hy_X8_inRange kw_1379 (c_X8_inRange hq1) rfl rfl (Nat.le_of_ble_eq_true rfl) ⟨Nat.le_of_ble_eq_true rfl, Nat.le_of_ble_eq_true rfl⟩ ⟨Nat.le_of_ble_eq_true rfl, Nat.le_of_ble_eq_true rfl⟩ dX8_load_11 (fun H locs hM hS => ?_)
  refine lv_if_ne (tgt := 20) hx hb dX8_load_14 (by decide) (fun c2 => ?_) (fun c2 => ?_)
  · replace h := gif_f c2 h
    refine lv_aload_n hx hb dX8_load_20 rfl (lv_at hl 0 rfl) ?_
    refine lv_iload_n hx hb dX8_load_21 rfl (lv_at hl 1 rfl) ?_
    refine gp_60_11 hx hb hown E hM hS hk_60 kw_1253 dX8_load_22 (fun H locs hM hS => ?_)
    refine lv_aload_n hx hb dX8_load_25 rfl (lv_at hl 0 rfl) ?_
    refine lv_iconst (v := (0 : Int32)) hx hb dX8_load_26 (by decide) ?_
    refine gp_60_12 hx hb hown E hM hS hk_60 kw_1254 dX8_load_27 (fun H locs hM hS => ?_)
    refine lv_aload_n hx hb dX8_load_30 rfl (lv_at hl 0 rfl) ?_
    refine lv_iconst (v := (0 : Int32)) hx hb dX8_load_31 (by decide) ?_
    refine gp_60_17 hx hb hown E hM hS hk_60 kw_1259 dX8_load_32 (fun H locs hM hS => ?_)
    refine lv_aload_n hx hb dX8_load_35 rfl (lv_at hl 0 rfl) ?_
    refine lv_iconst (v := (-1 : Int32)) hx hb dX8_load_36 (by decide) ?_
    refine gp_60_18 hx hb hown E hM hS hk_60 kw_1260 dX8_load_37 (fun H locs hM hS => ?_)
    refine lv_aload_n hx hb dX8_load_40 rfl (lv_at hl 0 rfl) ?_
    refine lv_iconst (v := (0 : Int32)) hx hb dX8_load_41 (by decide) ?_
    refine gp_60_19 hx hb hown E hM hS hk_60 kw_1261 dX8_load_42 (fun H locs hM hS => ?_)
    refine lv_aload_n hx hb dX8_load_45 rfl (lv_at hl 0 rfl) ?_
    refine lv_iconst (v := (0 : Int32)) hx hb dX8_load_46 (by decide) ?_
    refine gp_60_20 hx hb hown E hM hS hk_60 kw_1262 dX8_load_47 (fun H locs hM hS => ?_)
    refine lv_aload_n hx hb dX8_load_50 rfl (lv_at hl 0 rfl) ?_
    refine gg_60_1 hx hb hown E hM hk_60 kw_1243 dX8_load_51 ?_
    obtain ⟨q3, hq3, h⟩ := gbind_e h
    refine g_callS (As := [.ref (ad 62)]) (rest := []) hx hb (hml.trans hl.1.symm) hown E hM hS hy_X8_reset kw_1239 (c_X8_reset_62 hq3) rfl rfl (Nat.le_of_ble_eq_true rfl) ⟨Nat.le_of_ble_eq_true rfl, Nat.le_of_ble_eq_true rfl⟩ ⟨Nat.le_of_ble_eq_true rfl, Nat.le_of_ble_eq_true rfl⟩ dX8_load_54 (fun H locs hM hS => ?_)
    refine lv_iconst (v := (0 : Int32)) hx hb dX8_load_57 (by decide) ?_
    refine lv_istore_n (lv' := [(2, .int (0 : Int32)), (0, .ref (ad 60)), (1, .int p1)]) hx hb dX8_load_58 rfl hl (by decide) rfl (fun ls hl => ?_)
    obtain ⟨z27, h1, h⟩ := gbind_e h
    refine wl_X8_load_59 F E (r := z27) (fun q6 H locs ls e1 hM hS hl => ?_) gFuel (0 : Int32) q3 h1 hM hS (lv_sub hl [1, 0] rfl)
    replace e1 : z27 = q6 := e1
    rw [e1] at h
    refine lv_aload_n hx hb dX8_load_79 rfl (lv_at hl 0 rfl) ?_
    obtain ⟨q7, hq7, h⟩ := gbind_e h
    refine g_callV (As := []) (rest := []) hx hb (hml.trans hl.1.symm) hown E hM hS hy_X8_advance kw_1382 (c_X8_advance hq7) hk_60 dd_60 rfl rfl rfl (Nat.le_of_ble_eq_true rfl) ⟨Nat.le_of_ble_eq_true rfl, Nat.le_of_ble_eq_true rfl⟩ ⟨Nat.le_of_ble_eq_true rfl, Nat.le_of_ble_eq_true rfl⟩ dX8_load_80 (fun H locs hM hS => ?_)
    obtain ⟨z26, h1, h⟩ := gbind_e h
    refine wl_X8_load_83 F E (r := z26) (fun q14 H locs ls e1 hM hS hl => ?_) gFuel q7 h1 hM hS hl
    replace e1 : z26 = q14 := e1
    rw [e1] at h
    exact wj_X8_load_137 h F E hM hS hl
  · replace h := gif_t c2 h
    refine lv_bipush (v := (-2 : Int32)) hx hb dX8_load_17 (by decide) ?_
    obtain rfl := Option.some.inj h
    exact g_iret hx hb hr hlocks hM hS dX8_load_19
def f_X8_count (p1 : Int32) (μ : gM) : Option (Int32) :=
  gchk (gIn ((0 : Int32) + p1) 137) (some (gi μ 66 ((0 : Int32) + p1).toNatClampNeg))
set_option maxHeartbeats 4000000 in
set_option maxRecDepth 100000 in
theorem c_X8_count {l : Launch} {D : va_G} {cy : Nat → ClassId} {ad : Nat → Nat} {base : Nat} {p1 : Int32} {μ : gM} {RES : Int32} (h : f_X8_count p1 μ = some RES) : Met l yX8_count [.code yX8_count cX8_count 2 (some .int)] ({ frames := 0, cells := 0, slots := 0, locals := 0 } : Room) (va_Pc [.ref (ad 60), .int p1] (gB l gFull D cy ad base μ)) (gQ (some (.int RES)) gFull D cy ad base μ) 0 0 (gA base) := by
  refine Met.ofW (cc := cX8_count) (maxL := 2) (ret := (some .int)) (by decide) rfl ?_
  intro p e s m args below meth c s₁ B hml0 hv
  obtain ⟨rfl, E, hM⟩ := hv
  have F : gF p s m meth c cX8_count RX8 2 (some .int) := gF_of B hml0
  obtain ⟨hx, hb, hml, hown, hlocks, hr⟩ := id F
  have hS : va_S (gA base) s.heap s.heap [] := va_S.rf
  have hl := lv_entry ([.ref (ad 60), .int p1]) (n := 2) (Nat.le_of_ble_eq_true rfl)
  rw [lg_entry_eq]
  generalize (lg_sl ([.ref (ad 60), .int p1]) ++ List.replicate (2 - (lg_sl ([.ref (ad 60), .int p1])).length) Slot.unset).toArray = ls at hl ⊢
  have hl : lv_has ls 2 [(0, .ref (ad 60)), (1, .int p1)] := hl
  unfold f_X8_count at h
  refine lv_aload_n hx hb dX8_count_0 rfl (lv_at hl 0 rfl) ?_
  refine gg_60_7 hx hb hown E hM hk_60 kw_1249 dX8_count_1 ?_
  refine lv_iconst (v := (0 : Int32)) hx hb dX8_count_4 (by decide) ?_
  refine lv_iload_n hx hb dX8_count_5 rfl (lv_at hl 1 rfl) ?_
  refine lv_iadd hx hb dX8_count_6 ?_
  obtain ⟨c1, h⟩ := gchk_e h
  refine g_iald hx hb E hM hk_66 dd_66 c1 dX8_count_7 ?_
  obtain rfl := Option.some.inj h
  exact g_iret hx hb hr hlocks hM hS dX8_count_8
def f_X8_isLevel (p1 : Int32) (μ : gM) : Option (Bool) :=
  Option.bind (f_X8_count (0 : Int32) μ) (fun q1 => Option.bind (f_X8_inRange p1 (0 : Int32) (q1 - (1 : Int32)) μ) (fun q2 => some q2))
set_option maxHeartbeats 4000000 in
set_option maxRecDepth 100000 in
theorem c_X8_isLevel {l : Launch} {D : va_G} {cy : Nat → ClassId} {ad : Nat → Nat} {base : Nat} {p1 : Int32} {μ : gM} {RES : Bool} (h : f_X8_isLevel p1 μ = some RES) : Met l yX8_isLevel [.code yX8_isLevel cX8_isLevel 2 (some .boolean)] ({ frames := 1, cells := 0, slots := 0, locals := 22 } : Room) (va_Pc [.ref (ad 60), .int p1] (gB l gFull D cy ad base μ)) (gQ (some (.int (b2i RES))) gFull D cy ad base μ) 0 0 (gA base) := by
  refine Met.ofW (cc := cX8_isLevel) (maxL := 2) (ret := (some .boolean)) (by decide) rfl ?_
  intro p e s m args below meth c s₁ B hml0 hv
  obtain ⟨rfl, E, hM⟩ := hv
  have F : gF p s m meth c cX8_isLevel RX8 2 (some .boolean) := gF_of B hml0
  obtain ⟨hx, hb, hml, hown, hlocks, hr⟩ := id F
  have hS : va_S (gA base) s.heap s.heap [] := va_S.rf
  have hl := lv_entry ([.ref (ad 60), .int p1]) (n := 2) (Nat.le_of_ble_eq_true rfl)
  rw [lg_entry_eq]
  generalize (lg_sl ([.ref (ad 60), .int p1]) ++ List.replicate (2 - (lg_sl ([.ref (ad 60), .int p1])).length) Slot.unset).toArray = ls at hl ⊢
  have hl : lv_has ls 2 [(0, .ref (ad 60)), (1, .int p1)] := hl
  unfold f_X8_isLevel at h
  refine lv_iload_n hx hb dX8_isLevel_0 rfl (lv_at hl 1 rfl) ?_
  refine lv_iconst (v := (0 : Int32)) hx hb dX8_isLevel_1 (by decide) ?_
  refine lv_aload_n hx hb dX8_isLevel_2 rfl (lv_at hl 0 rfl) ?_
  refine lv_iconst (v := (0 : Int32)) hx hb dX8_isLevel_3 (by decide) ?_
  obtain ⟨q1, hq1, h⟩ := gbind_e h
  refine g_callV (As := [.int (0 : Int32)]) (rest := [.int (0 : Int32), .int p1]) hx hb (hml.trans hl.1.symm) hown E hM hS hy_X8_count kw_1498 (c_X8_count hq1) hk_60 dd_60 rfl rfl rfl (Nat.le_of_ble_eq_true rfl) ⟨Nat.le_of_ble_eq_true rfl, Nat.le_of_ble_eq_true rfl⟩ ⟨Nat.le_of_ble_eq_true rfl, Nat.le_of_ble_eq_true rfl⟩ dX8_isLevel_4 (fun H locs hM hS => ?_)
  refine lv_iconst (v := (1 : Int32)) hx hb dX8_isLevel_7 (by decide) ?_
  refine lv_isub hx hb dX8_isLevel_8 ?_
  obtain ⟨q2, hq2, h⟩ := gbind_e h
  refine g_callS (As := [.int p1, .int (0 : Int32), .int (q1 - (1 : Int32))]) (rest := []) hx hb (hml.trans hl.1.symm) hown E hM hS hy_X8_inRange kw_1379 (c_X8_inRange hq2) rfl rfl (Nat.le_of_ble_eq_true rfl) ⟨Nat.le_of_ble_eq_true rfl, Nat.le_of_ble_eq_true rfl⟩ ⟨Nat.le_of_ble_eq_true rfl, Nat.le_of_ble_eq_true rfl⟩ dX8_isLevel_9 (fun H locs hM hS => ?_)
  obtain rfl := Option.some.inj h
  exact g_zret hx hb hr hlocks (b2i_nar _) hM hS dX8_isLevel_12
def f_X8_isPoint (p1 : Int32) (μ : gM) : Option (Bool) :=
  Option.bind (f_X8_count (1 : Int32) μ) (fun q1 => Option.bind (f_X8_inRange p1 (0 : Int32) (q1 - (1 : Int32)) μ) (fun q2 => some q2))
set_option maxHeartbeats 4000000 in
set_option maxRecDepth 100000 in
theorem c_X8_isPoint {l : Launch} {D : va_G} {cy : Nat → ClassId} {ad : Nat → Nat} {base : Nat} {p1 : Int32} {μ : gM} {RES : Bool} (h : f_X8_isPoint p1 μ = some RES) : Met l yX8_isPoint [.code yX8_isPoint cX8_isPoint 2 (some .boolean)] ({ frames := 1, cells := 0, slots := 0, locals := 22 } : Room) (va_Pc [.ref (ad 60), .int p1] (gB l gFull D cy ad base μ)) (gQ (some (.int (b2i RES))) gFull D cy ad base μ) 0 0 (gA base) := by
  refine Met.ofW (cc := cX8_isPoint) (maxL := 2) (ret := (some .boolean)) (by decide) rfl ?_
  intro p e s m args below meth c s₁ B hml0 hv
  obtain ⟨rfl, E, hM⟩ := hv
  have F : gF p s m meth c cX8_isPoint RX8 2 (some .boolean) := gF_of B hml0
  obtain ⟨hx, hb, hml, hown, hlocks, hr⟩ := id F
  have hS : va_S (gA base) s.heap s.heap [] := va_S.rf
  have hl := lv_entry ([.ref (ad 60), .int p1]) (n := 2) (Nat.le_of_ble_eq_true rfl)
  rw [lg_entry_eq]
  generalize (lg_sl ([.ref (ad 60), .int p1]) ++ List.replicate (2 - (lg_sl ([.ref (ad 60), .int p1])).length) Slot.unset).toArray = ls at hl ⊢
  have hl : lv_has ls 2 [(0, .ref (ad 60)), (1, .int p1)] := hl
  unfold f_X8_isPoint at h
  refine lv_iload_n hx hb dX8_isPoint_0 rfl (lv_at hl 1 rfl) ?_
  refine lv_iconst (v := (0 : Int32)) hx hb dX8_isPoint_1 (by decide) ?_
  refine lv_aload_n hx hb dX8_isPoint_2 rfl (lv_at hl 0 rfl) ?_
  refine lv_iconst (v := (1 : Int32)) hx hb dX8_isPoint_3 (by decide) ?_
  obtain ⟨q1, hq1, h⟩ := gbind_e h
  refine g_callV (As := [.int (1 : Int32)]) (rest := [.int (0 : Int32), .int p1]) hx hb (hml.trans hl.1.symm) hown E hM hS hy_X8_count kw_1498 (c_X8_count hq1) hk_60 dd_60 rfl rfl rfl (Nat.le_of_ble_eq_true rfl) ⟨Nat.le_of_ble_eq_true rfl, Nat.le_of_ble_eq_true rfl⟩ ⟨Nat.le_of_ble_eq_true rfl, Nat.le_of_ble_eq_true rfl⟩ dX8_isPoint_4 (fun H locs hM hS => ?_)
  refine lv_iconst (v := (1 : Int32)) hx hb dX8_isPoint_7 (by decide) ?_
  refine lv_isub hx hb dX8_isPoint_8 ?_
  obtain ⟨q2, hq2, h⟩ := gbind_e h
  refine g_callS (As := [.int p1, .int (0 : Int32), .int (q1 - (1 : Int32))]) (rest := []) hx hb (hml.trans hl.1.symm) hown E hM hS hy_X8_inRange kw_1379 (c_X8_inRange hq2) rfl rfl (Nat.le_of_ble_eq_true rfl) ⟨Nat.le_of_ble_eq_true rfl, Nat.le_of_ble_eq_true rfl⟩ ⟨Nat.le_of_ble_eq_true rfl, Nat.le_of_ble_eq_true rfl⟩ dX8_isPoint_9 (fun H locs hM hS => ?_)
  obtain rfl := Option.some.inj h
  exact g_zret hx hb hr hlocks (b2i_nar _) hM hS dX8_isPoint_12
def f_X8_isLine (p1 : Int32) (μ : gM) : Option (Bool) :=
  Option.bind (f_X8_count (2 : Int32) μ) (fun q1 => Option.bind (f_X8_inRange p1 (0 : Int32) (q1 - (1 : Int32)) μ) (fun q2 => some q2))
set_option maxHeartbeats 4000000 in
set_option maxRecDepth 100000 in
theorem c_X8_isLine {l : Launch} {D : va_G} {cy : Nat → ClassId} {ad : Nat → Nat} {base : Nat} {p1 : Int32} {μ : gM} {RES : Bool} (h : f_X8_isLine p1 μ = some RES) : Met l yX8_isLine [.code yX8_isLine cX8_isLine 2 (some .boolean)] ({ frames := 1, cells := 0, slots := 0, locals := 22 } : Room) (va_Pc [.ref (ad 60), .int p1] (gB l gFull D cy ad base μ)) (gQ (some (.int (b2i RES))) gFull D cy ad base μ) 0 0 (gA base) := by
  refine Met.ofW (cc := cX8_isLine) (maxL := 2) (ret := (some .boolean)) (by decide) rfl ?_
  intro p e s m args below meth c s₁ B hml0 hv
  obtain ⟨rfl, E, hM⟩ := hv
  have F : gF p s m meth c cX8_isLine RX8 2 (some .boolean) := gF_of B hml0
  obtain ⟨hx, hb, hml, hown, hlocks, hr⟩ := id F
  have hS : va_S (gA base) s.heap s.heap [] := va_S.rf
  have hl := lv_entry ([.ref (ad 60), .int p1]) (n := 2) (Nat.le_of_ble_eq_true rfl)
  rw [lg_entry_eq]
  generalize (lg_sl ([.ref (ad 60), .int p1]) ++ List.replicate (2 - (lg_sl ([.ref (ad 60), .int p1])).length) Slot.unset).toArray = ls at hl ⊢
  have hl : lv_has ls 2 [(0, .ref (ad 60)), (1, .int p1)] := hl
  unfold f_X8_isLine at h
  refine lv_iload_n hx hb dX8_isLine_0 rfl (lv_at hl 1 rfl) ?_
  refine lv_iconst (v := (0 : Int32)) hx hb dX8_isLine_1 (by decide) ?_
  refine lv_aload_n hx hb dX8_isLine_2 rfl (lv_at hl 0 rfl) ?_
  refine lv_iconst (v := (2 : Int32)) hx hb dX8_isLine_3 (by decide) ?_
  obtain ⟨q1, hq1, h⟩ := gbind_e h
  refine g_callV (As := [.int (2 : Int32)]) (rest := [.int (0 : Int32), .int p1]) hx hb (hml.trans hl.1.symm) hown E hM hS hy_X8_count kw_1498 (c_X8_count hq1) hk_60 dd_60 rfl rfl rfl (Nat.le_of_ble_eq_true rfl) ⟨Nat.le_of_ble_eq_true rfl, Nat.le_of_ble_eq_true rfl⟩ ⟨Nat.le_of_ble_eq_true rfl, Nat.le_of_ble_eq_true rfl⟩ dX8_isLine_4 (fun H locs hM hS => ?_)
  refine lv_iconst (v := (1 : Int32)) hx hb dX8_isLine_7 (by decide) ?_
  refine lv_isub hx hb dX8_isLine_8 ?_
  obtain ⟨q2, hq2, h⟩ := gbind_e h
  refine g_callS (As := [.int p1, .int (0 : Int32), .int (q1 - (1 : Int32))]) (rest := []) hx hb (hml.trans hl.1.symm) hown E hM hS hy_X8_inRange kw_1379 (c_X8_inRange hq2) rfl rfl (Nat.le_of_ble_eq_true rfl) ⟨Nat.le_of_ble_eq_true rfl, Nat.le_of_ble_eq_true rfl⟩ ⟨Nat.le_of_ble_eq_true rfl, Nat.le_of_ble_eq_true rfl⟩ dX8_isLine_9 (fun H locs hM hS => ?_)
  obtain rfl := Option.some.inj h
  exact g_zret hx hb hr hlocks (b2i_nar _) hM hS dX8_isLine_12
def f_X8_isTest (p1 : Int32) (μ : gM) : Option (Bool) :=
  Option.bind (f_X8_count (3 : Int32) μ) (fun q1 => Option.bind (f_X8_inRange p1 (0 : Int32) (q1 - (1 : Int32)) μ) (fun q2 => some q2))
set_option maxHeartbeats 4000000 in
set_option maxRecDepth 100000 in
theorem c_X8_isTest {l : Launch} {D : va_G} {cy : Nat → ClassId} {ad : Nat → Nat} {base : Nat} {p1 : Int32} {μ : gM} {RES : Bool} (h : f_X8_isTest p1 μ = some RES) : Met l yX8_isTest [.code yX8_isTest cX8_isTest 2 (some .boolean)] ({ frames := 1, cells := 0, slots := 0, locals := 22 } : Room) (va_Pc [.ref (ad 60), .int p1] (gB l gFull D cy ad base μ)) (gQ (some (.int (b2i RES))) gFull D cy ad base μ) 0 0 (gA base) := by
  refine Met.ofW (cc := cX8_isTest) (maxL := 2) (ret := (some .boolean)) (by decide) rfl ?_
  intro p e s m args below meth c s₁ B hml0 hv
  obtain ⟨rfl, E, hM⟩ := hv
  have F : gF p s m meth c cX8_isTest RX8 2 (some .boolean) := gF_of B hml0
  obtain ⟨hx, hb, hml, hown, hlocks, hr⟩ := id F
  have hS : va_S (gA base) s.heap s.heap [] := va_S.rf
  have hl := lv_entry ([.ref (ad 60), .int p1]) (n := 2) (Nat.le_of_ble_eq_true rfl)
  rw [lg_entry_eq]
  generalize (lg_sl ([.ref (ad 60), .int p1]) ++ List.replicate (2 - (lg_sl ([.ref (ad 60), .int p1])).length) Slot.unset).toArray = ls at hl ⊢
  have hl : lv_has ls 2 [(0, .ref (ad 60)), (1, .int p1)] := hl
  unfold f_X8_isTest at h
  refine lv_iload_n hx hb dX8_isTest_0 rfl (lv_at hl 1 rfl) ?_
  refine lv_iconst (v := (0 : Int32)) hx hb dX8_isTest_1 (by decide) ?_
  refine lv_aload_n hx hb dX8_isTest_2 rfl (lv_at hl 0 rfl) ?_
  refine lv_iconst (v := (3 : Int32)) hx hb dX8_isTest_3 (by decide) ?_
  obtain ⟨q1, hq1, h⟩ := gbind_e h
  refine g_callV (As := [.int (3 : Int32)]) (rest := [.int (0 : Int32), .int p1]) hx hb (hml.trans hl.1.symm) hown E hM hS hy_X8_count kw_1498 (c_X8_count hq1) hk_60 dd_60 rfl rfl rfl (Nat.le_of_ble_eq_true rfl) ⟨Nat.le_of_ble_eq_true rfl, Nat.le_of_ble_eq_true rfl⟩ ⟨Nat.le_of_ble_eq_true rfl, Nat.le_of_ble_eq_true rfl⟩ dX8_isTest_4 (fun H locs hM hS => ?_)
  refine lv_iconst (v := (1 : Int32)) hx hb dX8_isTest_7 (by decide) ?_
  refine lv_isub hx hb dX8_isTest_8 ?_
  obtain ⟨q2, hq2, h⟩ := gbind_e h
  refine g_callS (As := [.int p1, .int (0 : Int32), .int (q1 - (1 : Int32))]) (rest := []) hx hb (hml.trans hl.1.symm) hown E hM hS hy_X8_inRange kw_1379 (c_X8_inRange hq2) rfl rfl (Nat.le_of_ble_eq_true rfl) ⟨Nat.le_of_ble_eq_true rfl, Nat.le_of_ble_eq_true rfl⟩ ⟨Nat.le_of_ble_eq_true rfl, Nat.le_of_ble_eq_true rfl⟩ dX8_isTest_9 (fun H locs hM hS => ?_)
  obtain rfl := Option.some.inj h
  exact g_zret hx hb hr hlocks (b2i_nar _) hM hS dX8_isTest_12
def f_X8_levelCount (μ : gM) : Option (Int32 × gM) :=
  Option.bind (f_X8_count (0 : Int32) (si μ 60 6 (0 : Int32))) (fun q1 => some (q1, (si μ 60 6 (0 : Int32))))
set_option maxHeartbeats 4000000 in
set_option maxRecDepth 100000 in
theorem c_X8_levelCount {l : Launch} {D : va_G} {cy : Nat → ClassId} {ad : Nat → Nat} {base : Nat}  {μ : gM} {RES : Int32 × gM} (h : f_X8_levelCount  μ = some RES) : Met l yX8_levelCount [.code yX8_levelCount cX8_levelCount 1 (some .int)] ({ frames := 1, cells := 0, slots := 0, locals := 21 } : Room) (va_Pc [.ref (ad 60)] (gB l gFull D cy ad base μ)) (gQ (some (.int RES.1)) gFull D cy ad base RES.2) 0 0 (gA base) := by
  refine Met.ofW (cc := cX8_levelCount) (maxL := 1) (ret := (some .int)) (by decide) rfl ?_
  intro p e s m args below meth c s₁ B hml0 hv
  obtain ⟨rfl, E, hM⟩ := hv
  have F : gF p s m meth c cX8_levelCount RX8 1 (some .int) := gF_of B hml0
  obtain ⟨hx, hb, hml, hown, hlocks, hr⟩ := id F
  have hS : va_S (gA base) s.heap s.heap [] := va_S.rf
  have hl := lv_entry ([.ref (ad 60)]) (n := 1) (Nat.le_of_ble_eq_true rfl)
  rw [lg_entry_eq]
  generalize (lg_sl ([.ref (ad 60)]) ++ List.replicate (1 - (lg_sl ([.ref (ad 60)])).length) Slot.unset).toArray = ls at hl ⊢
  have hl : lv_has ls 1 [(0, .ref (ad 60))] := hl
  unfold f_X8_levelCount at h
  refine lv_aload_n hx hb dX8_levelCount_0 rfl (lv_at hl 0 rfl) ?_
  refine lv_iconst (v := (0 : Int32)) hx hb dX8_levelCount_1 (by decide) ?_
  refine gp_60_6 hx hb hown E hM hS hk_60 kw_1248 dX8_levelCount_2 (fun H locs hM hS => ?_)
  refine lv_aload_n hx hb dX8_levelCount_5 rfl (lv_at hl 0 rfl) ?_
  refine lv_iconst (v := (0 : Int32)) hx hb dX8_levelCount_6 (by decide) ?_
  obtain ⟨q1, hq1, h⟩ := gbind_e h
  refine g_callV (As := [.int (0 : Int32)]) (rest := []) hx hb (hml.trans hl.1.symm) hown E hM hS hy_X8_count kw_1498 (c_X8_count hq1) hk_60 dd_60 rfl rfl rfl (Nat.le_of_ble_eq_true rfl) ⟨Nat.le_of_ble_eq_true rfl, Nat.le_of_ble_eq_true rfl⟩ ⟨Nat.le_of_ble_eq_true rfl, Nat.le_of_ble_eq_true rfl⟩ dX8_levelCount_7 (fun H locs hM hS => ?_)
  obtain rfl := Option.some.inj h
  exact g_iret hx hb hr hlocks hM hS dX8_levelCount_10
def f_X8_pointCount (μ : gM) : Option (Int32 × gM) :=
  Option.bind (f_X8_count (1 : Int32) (si μ 60 6 (0 : Int32))) (fun q1 => some (q1, (si μ 60 6 (0 : Int32))))
set_option maxHeartbeats 4000000 in
set_option maxRecDepth 100000 in
theorem c_X8_pointCount {l : Launch} {D : va_G} {cy : Nat → ClassId} {ad : Nat → Nat} {base : Nat}  {μ : gM} {RES : Int32 × gM} (h : f_X8_pointCount  μ = some RES) : Met l yX8_pointCount [.code yX8_pointCount cX8_pointCount 1 (some .int)] ({ frames := 1, cells := 0, slots := 0, locals := 21 } : Room) (va_Pc [.ref (ad 60)] (gB l gFull D cy ad base μ)) (gQ (some (.int RES.1)) gFull D cy ad base RES.2) 0 0 (gA base) := by
  refine Met.ofW (cc := cX8_pointCount) (maxL := 1) (ret := (some .int)) (by decide) rfl ?_
  intro p e s m args below meth c s₁ B hml0 hv
  obtain ⟨rfl, E, hM⟩ := hv
  have F : gF p s m meth c cX8_pointCount RX8 1 (some .int) := gF_of B hml0
  obtain ⟨hx, hb, hml, hown, hlocks, hr⟩ := id F
  have hS : va_S (gA base) s.heap s.heap [] := va_S.rf
  have hl := lv_entry ([.ref (ad 60)]) (n := 1) (Nat.le_of_ble_eq_true rfl)
  rw [lg_entry_eq]
  generalize (lg_sl ([.ref (ad 60)]) ++ List.replicate (1 - (lg_sl ([.ref (ad 60)])).length) Slot.unset).toArray = ls at hl ⊢
  have hl : lv_has ls 1 [(0, .ref (ad 60))] := hl
  unfold f_X8_pointCount at h
  refine lv_aload_n hx hb dX8_pointCount_0 rfl (lv_at hl 0 rfl) ?_
  refine lv_iconst (v := (0 : Int32)) hx hb dX8_pointCount_1 (by decide) ?_
  refine gp_60_6 hx hb hown E hM hS hk_60 kw_1248 dX8_pointCount_2 (fun H locs hM hS => ?_)
  refine lv_aload_n hx hb dX8_pointCount_5 rfl (lv_at hl 0 rfl) ?_
  refine lv_iconst (v := (1 : Int32)) hx hb dX8_pointCount_6 (by decide) ?_
  obtain ⟨q1, hq1, h⟩ := gbind_e h
  refine g_callV (As := [.int (1 : Int32)]) (rest := []) hx hb (hml.trans hl.1.symm) hown E hM hS hy_X8_count kw_1498 (c_X8_count hq1) hk_60 dd_60 rfl rfl rfl (Nat.le_of_ble_eq_true rfl) ⟨Nat.le_of_ble_eq_true rfl, Nat.le_of_ble_eq_true rfl⟩ ⟨Nat.le_of_ble_eq_true rfl, Nat.le_of_ble_eq_true rfl⟩ dX8_pointCount_7 (fun H locs hM hS => ?_)
  obtain rfl := Option.some.inj h
  exact g_iret hx hb hr hlocks hM hS dX8_pointCount_10
def f_X8_lineCount (μ : gM) : Option (Int32 × gM) :=
  Option.bind (f_X8_count (2 : Int32) (si μ 60 6 (0 : Int32))) (fun q1 => some (q1, (si μ 60 6 (0 : Int32))))
set_option maxHeartbeats 4000000 in
set_option maxRecDepth 100000 in
theorem c_X8_lineCount {l : Launch} {D : va_G} {cy : Nat → ClassId} {ad : Nat → Nat} {base : Nat}  {μ : gM} {RES : Int32 × gM} (h : f_X8_lineCount  μ = some RES) : Met l yX8_lineCount [.code yX8_lineCount cX8_lineCount 1 (some .int)] ({ frames := 1, cells := 0, slots := 0, locals := 21 } : Room) (va_Pc [.ref (ad 60)] (gB l gFull D cy ad base μ)) (gQ (some (.int RES.1)) gFull D cy ad base RES.2) 0 0 (gA base) := by
  refine Met.ofW (cc := cX8_lineCount) (maxL := 1) (ret := (some .int)) (by decide) rfl ?_
  intro p e s m args below meth c s₁ B hml0 hv
  obtain ⟨rfl, E, hM⟩ := hv
  have F : gF p s m meth c cX8_lineCount RX8 1 (some .int) := gF_of B hml0
  obtain ⟨hx, hb, hml, hown, hlocks, hr⟩ := id F
  have hS : va_S (gA base) s.heap s.heap [] := va_S.rf
  have hl := lv_entry ([.ref (ad 60)]) (n := 1) (Nat.le_of_ble_eq_true rfl)
  rw [lg_entry_eq]
  generalize (lg_sl ([.ref (ad 60)]) ++ List.replicate (1 - (lg_sl ([.ref (ad 60)])).length) Slot.unset).toArray = ls at hl ⊢
  have hl : lv_has ls 1 [(0, .ref (ad 60))] := hl
  unfold f_X8_lineCount at h
  refine lv_aload_n hx hb dX8_lineCount_0 rfl (lv_at hl 0 rfl) ?_
  refine lv_iconst (v := (0 : Int32)) hx hb dX8_lineCount_1 (by decide) ?_
  refine gp_60_6 hx hb hown E hM hS hk_60 kw_1248 dX8_lineCount_2 (fun H locs hM hS => ?_)
  refine lv_aload_n hx hb dX8_lineCount_5 rfl (lv_at hl 0 rfl) ?_
  refine lv_iconst (v := (2 : Int32)) hx hb dX8_lineCount_6 (by decide) ?_
  obtain ⟨q1, hq1, h⟩ := gbind_e h
  refine g_callV (As := [.int (2 : Int32)]) (rest := []) hx hb (hml.trans hl.1.symm) hown E hM hS hy_X8_count kw_1498 (c_X8_count hq1) hk_60 dd_60 rfl rfl rfl (Nat.le_of_ble_eq_true rfl) ⟨Nat.le_of_ble_eq_true rfl, Nat.le_of_ble_eq_true rfl⟩ ⟨Nat.le_of_ble_eq_true rfl, Nat.le_of_ble_eq_true rfl⟩ dX8_lineCount_7 (fun H locs hM hS => ?_)
  obtain rfl := Option.some.inj h
  exact g_iret hx hb hr hlocks hM hS dX8_lineCount_10
def f_X8_testCount (μ : gM) : Option (Int32 × gM) :=
  Option.bind (f_X8_count (3 : Int32) (si μ 60 6 (0 : Int32))) (fun q1 => some (q1, (si μ 60 6 (0 : Int32))))
set_option maxHeartbeats 4000000 in
set_option maxRecDepth 100000 in
theorem c_X8_testCount {l : Launch} {D : va_G} {cy : Nat → ClassId} {ad : Nat → Nat} {base : Nat}  {μ : gM} {RES : Int32 × gM} (h : f_X8_testCount  μ = some RES) : Met l yX8_testCount [.code yX8_testCount cX8_testCount 1 (some .int)] ({ frames := 1, cells := 0, slots := 0, locals := 21 } : Room) (va_Pc [.ref (ad 60)] (gB l gFull D cy ad base μ)) (gQ (some (.int RES.1)) gFull D cy ad base RES.2) 0 0 (gA base) := by
  refine Met.ofW (cc := cX8_testCount) (maxL := 1) (ret := (some .int)) (by decide) rfl ?_
  intro p e s m args below meth c s₁ B hml0 hv
  obtain ⟨rfl, E, hM⟩ := hv
  have F : gF p s m meth c cX8_testCount RX8 1 (some .int) := gF_of B hml0
  obtain ⟨hx, hb, hml, hown, hlocks, hr⟩ := id F
  have hS : va_S (gA base) s.heap s.heap [] := va_S.rf
  have hl := lv_entry ([.ref (ad 60)]) (n := 1) (Nat.le_of_ble_eq_true rfl)
  rw [lg_entry_eq]
  generalize (lg_sl ([.ref (ad 60)]) ++ List.replicate (1 - (lg_sl ([.ref (ad 60)])).length) Slot.unset).toArray = ls at hl ⊢
  have hl : lv_has ls 1 [(0, .ref (ad 60))] := hl
  unfold f_X8_testCount at h
  refine lv_aload_n hx hb dX8_testCount_0 rfl (lv_at hl 0 rfl) ?_
  refine lv_iconst (v := (0 : Int32)) hx hb dX8_testCount_1 (by decide) ?_
  refine gp_60_6 hx hb hown E hM hS hk_60 kw_1248 dX8_testCount_2 (fun H locs hM hS => ?_)
  refine lv_aload_n hx hb dX8_testCount_5 rfl (lv_at hl 0 rfl) ?_
  refine lv_iconst (v := (3 : Int32)) hx hb dX8_testCount_6 (by decide) ?_
  obtain ⟨q1, hq1, h⟩ := gbind_e h
  refine g_callV (As := [.int (3 : Int32)]) (rest := []) hx hb (hml.trans hl.1.symm) hown E hM hS hy_X8_count kw_1498 (c_X8_count hq1) hk_60 dd_60 rfl rfl rfl (Nat.le_of_ble_eq_true rfl) ⟨Nat.le_of_ble_eq_true rfl, Nat.le_of_ble_eq_true rfl⟩ ⟨Nat.le_of_ble_eq_true rfl, Nat.le_of_ble_eq_true rfl⟩ dX8_testCount_7 (fun H locs hM hS => ?_)
  obtain rfl := Option.some.inj h
  exact g_iret hx hb hr hlocks hM hS dX8_testCount_10
def b_X8_find_66_15 (x1 : Int32) (x2 : Int32) (x3 : Int32) (x4 : Int32) (μ : gM) : Option ((Int32) ⊕ ((Unit) ⊕ (Int32))) :=
  gchk (gIn ((0 : Int32) + x1) 137) (if ((gi μ 66 ((0 : Int32) + x1).toNatClampNeg) ≤ x4) then some (.inr (.inl ())) else gchk (gIn (x3 + x4) 137) (if ((gi μ 66 (x3 + x4).toNatClampNeg) = x2) then some (.inr (.inr x4)) else some (.inl (x4 + (1 : Int32)))))
set_option maxHeartbeats 4000000 in
set_option maxRecDepth 100000 in
theorem wb_X8_find_66_15 {p : Program} {l : Launch} {e : Env} {s : State} {m : MethodId} {args : Array Value} {below : List Frame} {meth : Method} {c : Code} {D : va_G} {cy : Nat → ClassId} {ad : Nat → Nat} {base : Nat} {x1 : Int32} {x2 : Int32} {x3 : Int32} {x4 : Int32} {μ : gM} {o : (Int32) ⊕ ((Unit) ⊕ (Int32))} {RES : Int32} (h : b_X8_find_66_15 x1 x2 x3 x4 μ = some o) (F : gF p s m meth c cX8_find RX8 5 (some .int)) (E : gEnv l D cy ad base s) (kc : ∀ (t : Int32) {H : Heap} {locs : List Loc} {ls : Array Slot}, o = .inl t → gW gFull D cy ad base μ H → va_S (gA base) s.heap H locs → lv_has ls 5 [(0, .ref (ad 66)), (1, .int x1), (2, .int x2), (3, .int x3), (4, .int t)] → W p l e ({ frames := 0, cells := 0, slots := 0, locals := 0 } : Room) s m args below meth c H locs 0 0 (MQ below (gQ (some (.int RES)) gFull D cy ad base μ) args s 0 0 (gA base)) (F0 m 15 ls [])) (kx : ∀ (t : Unit) {H : Heap} {locs : List Loc} {ls : Array Slot}, o = .inr (.inl t) → gW gFull D cy ad base μ H → va_S (gA base) s.heap H locs → lv_has ls 5 [] → W p l e ({ frames := 0, cells := 0, slots := 0, locals := 0 } : Room) s m args below meth c H locs 0 0 (MQ below (gQ (some (.int RES)) gFull D cy ad base μ) args s 0 0 (gA base)) (F0 m 44 ls [])) (kr : ∀ x : Int32, o = .inr (.inr x) → x = RES) {H : Heap} {locs : List Loc} {ls : Array Slot} (hM : gW gFull D cy ad base μ H) (hS : va_S (gA base) s.heap H locs) (hl : lv_has ls 5 [(0, .ref (ad 66)), (1, .int x1), (2, .int x2), (3, .int x3), (4, .int x4)]) : W p l e ({ frames := 0, cells := 0, slots := 0, locals := 0 } : Room) s m args below meth c H locs 0 0 (MQ below (gQ (some (.int RES)) gFull D cy ad base μ) args s 0 0 (gA base)) (F0 m 15 ls []) := by
  obtain ⟨hx, hb, hml, hown, hlocks, hr⟩ := id F
  unfold b_X8_find_66_15 at h
  refine lv_iload hx hb dX8_find_15 (lv_at hl 4 rfl) ?_
  refine lv_aload_n hx hb dX8_find_17 rfl (lv_at hl 0 rfl) ?_
  refine lv_iconst (v := (0 : Int32)) hx hb dX8_find_18 (by decide) ?_
  refine lv_iload_n hx hb dX8_find_19 rfl (lv_at hl 1 rfl) ?_
  refine lv_iadd hx hb dX8_find_20 ?_
  obtain ⟨c2, h⟩ := gchk_e h
  refine g_iald hx hb E hM hk_66 dd_66 c2 dX8_find_21 ?_
  refine lv_icmp_ge (tgt := 44) hx hb dX8_find_22 (by decide) (fun c3 => ?_) (fun c3 => ?_)
  · replace h := gif_t c3 h
    exact kx _ (Option.some.inj h).symm hM hS (lv_sub hl [] rfl)
  · replace h := gif_f c3 h
    refine lv_aload_n hx hb dX8_find_25 rfl (lv_at hl 0 rfl) ?_
    refine lv_iload_n hx hb dX8_find_26 rfl (lv_at hl 3 rfl) ?_
    refine lv_iload hx hb dX8_find_27 (lv_at hl 4 rfl) ?_
    refine lv_iadd hx hb dX8_find_29 ?_
    obtain ⟨c4, h⟩ := gchk_e h
    refine g_iald hx hb E hM hk_66 dd_66 c4 dX8_find_30 ?_
    refine lv_iload_n hx hb dX8_find_31 rfl (lv_at hl 2 rfl) ?_
    refine lv_icmp_ne (tgt := 38) hx hb dX8_find_32 (by decide) (fun c5 => ?_) (fun c5 => ?_)
    · replace h := gif_f c5 h
      refine lv_iinc (v := (x4 + (1 : Int32))) (lv' := [(4, .int (x4 + (1 : Int32))), (0, .ref (ad 66)), (1, .int x1), (2, .int x2), (3, .int x3)]) hx hb dX8_find_38 hl (k := 4) rfl rfl (by decide) rfl (fun ls hl => ?_)
      refine lv_goto (tgt := 15) hx hb dX8_find_41 (by decide) ?_
      exact kc _ (Option.some.inj h).symm hM hS (lv_sub hl [1, 2, 3, 4, 0] rfl)
    · replace h := gif_t c5 h
      refine lv_iload hx hb dX8_find_35 (lv_at hl 4 rfl) ?_
      obtain rfl := kr _ (Option.some.inj h).symm
      exact g_iret hx hb hr hlocks hM hS dX8_find_37
set_option maxHeartbeats 4000000 in
theorem wl_X8_find_66_15 {p : Program} {l : Launch} {e : Env} {s : State} {m : MethodId} {args : Array Value} {below : List Frame} {meth : Method} {c : Code} {D : va_G} {cy : Nat → ClassId} {ad : Nat → Nat} {base : Nat} {x1 : Int32} {x2 : Int32} {x3 : Int32} {μ : gM} {r : (Unit) ⊕ (Int32)} {RES : Int32} (F : gF p s m meth c cX8_find RX8 5 (some .int)) (E : gEnv l D cy ad base s) (kx : ∀ (t : Unit) {H : Heap} {locs : List Loc} {ls : Array Slot}, r = .inl t → gW gFull D cy ad base μ H → va_S (gA base) s.heap H locs → lv_has ls 5 [] → W p l e ({ frames := 0, cells := 0, slots := 0, locals := 0 } : Room) s m args below meth c H locs 0 0 (MQ below (gQ (some (.int RES)) gFull D cy ad base μ) args s 0 0 (gA base)) (F0 m 44 ls [])) (kr : ∀ x : Int32, r = .inr x → x = RES) : ∀ (n : Nat) (x4 : Int32), gloop (fun t => b_X8_find_66_15 x1 x2 x3 t μ) n x4 = some r → ∀ {H : Heap} {locs : List Loc} {ls : Array Slot}, gW gFull D cy ad base μ H → va_S (gA base) s.heap H locs → lv_has ls 5 [(0, .ref (ad 66)), (1, .int x1), (2, .int x2), (3, .int x3), (4, .int x4)] → W p l e ({ frames := 0, cells := 0, slots := 0, locals := 0 } : Room) s m args below meth c H locs 0 0 (MQ below (gQ (some (.int RES)) gFull D cy ad base μ) args s 0 0 (gA base)) (F0 m 15 ls []) := by
  intro n
  induction n with
  | zero =>
    intro x4 h
    exact (gloop_0 h).elim
  | succ n ih =>
    intro x4 h H locs ls hM hS hl
    obtain ⟨o, h0, hc, hq⟩ := gloop_s h
    have h1 : b_X8_find_66_15 x1 x2 x3 x4 μ = some o := h0
    exact wb_X8_find_66_15 h1 F E (fun t H locs ls ho hM hS hl => ih t (hc t ho) hM hS hl) (fun t H locs ls ho hM hS hl => kx t (hq _ ho).symm hM hS hl) (fun x ho => kr x (hq _ ho).symm) hM hS hl
def j_X8_find_66_11 (x1 : Int32) (x2 : Int32) (y0 : Int32) (μ : gM) : Option (Int32) :=
  Option.bind (gloop (fun t => b_X8_find_66_15 x1 x2 y0 t μ) gFuel (0 : Int32)) (fun q6 => Sum.elim (fun t7 => some (-1 : Int32)) (fun x => some x) q6)
set_option maxHeartbeats 4000000 in
set_option maxRecDepth 100000 in
theorem wj_X8_find_66_11 {p : Program} {l : Launch} {e : Env} {s : State} {m : MethodId} {args : Array Value} {below : List Frame} {meth : Method} {c : Code} {D : va_G} {cy : Nat → ClassId} {ad : Nat → Nat} {base : Nat} {x1 : Int32} {x2 : Int32} {y0 : Int32} {μ : gM} {o : Int32} (h : j_X8_find_66_11 x1 x2 y0 μ = some o) (F : gF p s m meth c cX8_find RX8 5 (some .int)) (E : gEnv l D cy ad base s)  {H : Heap} {locs : List Loc} {ls : Array Slot} (hM : gW gFull D cy ad base μ H) (hS : va_S (gA base) s.heap H locs) (hl : lv_has ls 5 [(0, .ref (ad 66)), (1, .int x1), (2, .int x2)]) : W p l e ({ frames := 0, cells := 0, slots := 0, locals := 0 } : Room) s m args below meth c H locs 0 0 (MQ below (gQ (some (.int o)) gFull D cy ad base μ) args s 0 0 (gA base)) (F0 m 11 ls [.int y0]) := by
  obtain ⟨hx, hb, hml, hown, hlocks, hr⟩ := id F
  unfold j_X8_find_66_11 at h
  refine lv_istore_n (lv' := [(3, .int y0), (0, .ref (ad 66)), (1, .int x1), (2, .int x2)]) hx hb dX8_find_11 rfl hl (by decide) rfl (fun ls hl => ?_)
  refine lv_iconst (v := (0 : Int32)) hx hb dX8_find_12 (by decide) ?_
  refine lv_istore (lv' := [(4, .int (0 : Int32)), (3, .int y0), (0, .ref (ad 66)), (1, .int x1), (2, .int x2)]) hx hb dX8_find_13 hl (by decide) rfl (fun ls hl => ?_)
  obtain ⟨q6, h1, h⟩ := gbind_e h
  refine wl_X8_find_66_15 F E (r := q6) (fun t7 H locs ls e1 hM hS hl => ?_) (fun x ex => ?_) gFuel (0 : Int32) h1 hM hS (lv_sub hl [2, 3, 4, 1, 0] rfl)
  · replace h := gsum_l e1 h
    refine lv_iconst (v := (-1 : Int32)) hx hb dX8_find_44 (by decide) ?_
    obtain rfl := Option.some.inj h
    exact g_iret hx hb hr hlocks hM hS dX8_find_45
  · exact Option.some.inj (gsum_r ex h)
def f_X8_find_66 (p2 : Int32) (p3 : Int32) (μ : gM) : Option (Int32) :=
  if (p2 = 0) then j_X8_find_66_11 p2 p3 (118 : Int32) μ else j_X8_find_66_11 p2 p3 (121 : Int32) μ
set_option maxHeartbeats 4000000 in
set_option maxRecDepth 100000 in
theorem c_X8_find_66 {l : Launch} {D : va_G} {cy : Nat → ClassId} {ad : Nat → Nat} {base : Nat} {p2 : Int32} {p3 : Int32} {μ : gM} {RES : Int32} (h : f_X8_find_66 p2 p3 μ = some RES) : Met l yX8_find [.code yX8_find cX8_find 5 (some .int)] ({ frames := 0, cells := 0, slots := 0, locals := 0 } : Room) (va_Pc [.ref (ad 66), .int p2, .int p3] (gB l gFull D cy ad base μ)) (gQ (some (.int RES)) gFull D cy ad base μ) 0 0 (gA base) := by
  refine Met.ofW (cc := cX8_find) (maxL := 5) (ret := (some .int)) (by decide) rfl ?_
  intro p e s m args below meth c s₁ B hml0 hv
  obtain ⟨rfl, E, hM⟩ := hv
  have F : gF p s m meth c cX8_find RX8 5 (some .int) := gF_of B hml0
  obtain ⟨hx, hb, hml, hown, hlocks, hr⟩ := id F
  have hS : va_S (gA base) s.heap s.heap [] := va_S.rf
  have hl := lv_entry ([.ref (ad 66), .int p2, .int p3]) (n := 5) (Nat.le_of_ble_eq_true rfl)
  rw [lg_entry_eq]
  generalize (lg_sl ([.ref (ad 66), .int p2, .int p3]) ++ List.replicate (5 - (lg_sl ([.ref (ad 66), .int p2, .int p3])).length) Slot.unset).toArray = ls at hl ⊢
  have hl : lv_has ls 5 [(0, .ref (ad 66)), (1, .int p2), (2, .int p3)] := hl
  unfold f_X8_find_66 at h
  refine lv_iload_n hx hb dX8_find_0 rfl (lv_at hl 1 rfl) ?_
  refine lv_if_ne (tgt := 9) hx hb dX8_find_1 (by decide) (fun c1 => ?_) (fun c1 => ?_)
  · replace h := gif_f c1 h
    refine lv_bipush (v := (121 : Int32)) hx hb dX8_find_9 (by decide) ?_
    exact wj_X8_find_66_11 h F E hM hS hl
  · replace h := gif_t c1 h
    refine lv_bipush (v := (118 : Int32)) hx hb dX8_find_4 (by decide) ?_
    refine lv_goto (tgt := 11) hx hb dX8_find_6 (by decide) ?_
    exact wj_X8_find_66_11 h F E hM hS hl
def f_X8_levelNamed (p1 : Int32) (μ : gM) : Option (Int32 × gM) :=
  Option.bind (f_X8_find_66 (0 : Int32) p1 (si μ 60 6 (0 : Int32))) (fun q1 => some (q1, (si μ 60 6 (0 : Int32))))
set_option maxHeartbeats 4000000 in
set_option maxRecDepth 100000 in
theorem c_X8_levelNamed {l : Launch} {D : va_G} {cy : Nat → ClassId} {ad : Nat → Nat} {base : Nat} {p1 : Int32} {μ : gM} {RES : Int32 × gM} (h : f_X8_levelNamed p1 μ = some RES) : Met l yX8_levelNamed [.code yX8_levelNamed cX8_levelNamed 2 (some .int)] ({ frames := 1, cells := 0, slots := 0, locals := 24 } : Room) (va_Pc [.ref (ad 60), .int p1] (gB l gFull D cy ad base μ)) (gQ (some (.int RES.1)) gFull D cy ad base RES.2) 0 0 (gA base) := by
  refine Met.ofW (cc := cX8_levelNamed) (maxL := 2) (ret := (some .int)) (by decide) rfl ?_
  intro p e s m args below meth c s₁ B hml0 hv
  obtain ⟨rfl, E, hM⟩ := hv
  have F : gF p s m meth c cX8_levelNamed RX8 2 (some .int) := gF_of B hml0
  obtain ⟨hx, hb, hml, hown, hlocks, hr⟩ := id F
  have hS : va_S (gA base) s.heap s.heap [] := va_S.rf
  have hl := lv_entry ([.ref (ad 60), .int p1]) (n := 2) (Nat.le_of_ble_eq_true rfl)
  rw [lg_entry_eq]
  generalize (lg_sl ([.ref (ad 60), .int p1]) ++ List.replicate (2 - (lg_sl ([.ref (ad 60), .int p1])).length) Slot.unset).toArray = ls at hl ⊢
  have hl : lv_has ls 2 [(0, .ref (ad 60)), (1, .int p1)] := hl
  unfold f_X8_levelNamed at h
  refine lv_aload_n hx hb dX8_levelNamed_0 rfl (lv_at hl 0 rfl) ?_
  refine lv_iconst (v := (0 : Int32)) hx hb dX8_levelNamed_1 (by decide) ?_
  refine gp_60_6 hx hb hown E hM hS hk_60 kw_1248 dX8_levelNamed_2 (fun H locs hM hS => ?_)
  refine lv_aload_n hx hb dX8_levelNamed_5 rfl (lv_at hl 0 rfl) ?_
  refine gg_60_7 hx hb hown E hM hk_60 kw_1249 dX8_levelNamed_6 ?_
  refine lv_iconst (v := (0 : Int32)) hx hb dX8_levelNamed_9 (by decide) ?_
  refine lv_iload_n hx hb dX8_levelNamed_10 rfl (lv_at hl 1 rfl) ?_
  obtain ⟨q1, hq1, h⟩ := gbind_e h
  refine g_callS (As := [.ref (ad 66), .int (0 : Int32), .int p1]) (rest := []) hx hb (hml.trans hl.1.symm) hown E hM hS hy_X8_find kw_1435 (c_X8_find_66 hq1) rfl rfl (Nat.le_of_ble_eq_true rfl) ⟨Nat.le_of_ble_eq_true rfl, Nat.le_of_ble_eq_true rfl⟩ ⟨Nat.le_of_ble_eq_true rfl, Nat.le_of_ble_eq_true rfl⟩ dX8_levelNamed_11 (fun H locs hM hS => ?_)
  obtain rfl := Option.some.inj h
  exact g_iret hx hb hr hlocks hM hS dX8_levelNamed_14
def f_X8_pointNamed (p1 : Int32) (μ : gM) : Option (Int32 × gM) :=
  Option.bind (f_X8_find_66 (1 : Int32) p1 (si μ 60 6 (0 : Int32))) (fun q1 => some (q1, (si μ 60 6 (0 : Int32))))
set_option maxHeartbeats 4000000 in
set_option maxRecDepth 100000 in
theorem c_X8_pointNamed {l : Launch} {D : va_G} {cy : Nat → ClassId} {ad : Nat → Nat} {base : Nat} {p1 : Int32} {μ : gM} {RES : Int32 × gM} (h : f_X8_pointNamed p1 μ = some RES) : Met l yX8_pointNamed [.code yX8_pointNamed cX8_pointNamed 2 (some .int)] ({ frames := 1, cells := 0, slots := 0, locals := 24 } : Room) (va_Pc [.ref (ad 60), .int p1] (gB l gFull D cy ad base μ)) (gQ (some (.int RES.1)) gFull D cy ad base RES.2) 0 0 (gA base) := by
  refine Met.ofW (cc := cX8_pointNamed) (maxL := 2) (ret := (some .int)) (by decide) rfl ?_
  intro p e s m args below meth c s₁ B hml0 hv
  obtain ⟨rfl, E, hM⟩ := hv
  have F : gF p s m meth c cX8_pointNamed RX8 2 (some .int) := gF_of B hml0
  obtain ⟨hx, hb, hml, hown, hlocks, hr⟩ := id F
  have hS : va_S (gA base) s.heap s.heap [] := va_S.rf
  have hl := lv_entry ([.ref (ad 60), .int p1]) (n := 2) (Nat.le_of_ble_eq_true rfl)
  rw [lg_entry_eq]
  generalize (lg_sl ([.ref (ad 60), .int p1]) ++ List.replicate (2 - (lg_sl ([.ref (ad 60), .int p1])).length) Slot.unset).toArray = ls at hl ⊢
  have hl : lv_has ls 2 [(0, .ref (ad 60)), (1, .int p1)] := hl
  unfold f_X8_pointNamed at h
  refine lv_aload_n hx hb dX8_pointNamed_0 rfl (lv_at hl 0 rfl) ?_
  refine lv_iconst (v := (0 : Int32)) hx hb dX8_pointNamed_1 (by decide) ?_
  refine gp_60_6 hx hb hown E hM hS hk_60 kw_1248 dX8_pointNamed_2 (fun H locs hM hS => ?_)
  refine lv_aload_n hx hb dX8_pointNamed_5 rfl (lv_at hl 0 rfl) ?_
  refine gg_60_7 hx hb hown E hM hk_60 kw_1249 dX8_pointNamed_6 ?_
  refine lv_iconst (v := (1 : Int32)) hx hb dX8_pointNamed_9 (by decide) ?_
  refine lv_iload_n hx hb dX8_pointNamed_10 rfl (lv_at hl 1 rfl) ?_
  obtain ⟨q1, hq1, h⟩ := gbind_e h
  refine g_callS (As := [.ref (ad 66), .int (1 : Int32), .int p1]) (rest := []) hx hb (hml.trans hl.1.symm) hown E hM hS hy_X8_find kw_1435 (c_X8_find_66 hq1) rfl rfl (Nat.le_of_ble_eq_true rfl) ⟨Nat.le_of_ble_eq_true rfl, Nat.le_of_ble_eq_true rfl⟩ ⟨Nat.le_of_ble_eq_true rfl, Nat.le_of_ble_eq_true rfl⟩ dX8_pointNamed_11 (fun H locs hM hS => ?_)
  obtain rfl := Option.some.inj h
  exact g_iret hx hb hr hlocks hM hS dX8_pointNamed_14
def f_X8_getSetting (p1 : Int32) (μ : gM) : Option (Int32 × gM) :=
  Option.bind (f_X8_inRange p1 (0 : Int32) (2 : Int32) (si μ 60 6 (0 : Int32))) (fun q1 => if ((b2i q1) = 0) then some ((-2 : Int32), (si μ 60 6 (0 : Int32))) else gchk (gIn p1 703) (some ((gi (si μ 60 6 (0 : Int32)) 61 p1.toNatClampNeg), (si μ 60 6 (0 : Int32)))))
set_option maxHeartbeats 4000000 in
set_option maxRecDepth 100000 in
theorem c_X8_getSetting {l : Launch} {D : va_G} {cy : Nat → ClassId} {ad : Nat → Nat} {base : Nat} {p1 : Int32} {μ : gM} {RES : Int32 × gM} (h : f_X8_getSetting p1 μ = some RES) : Met l yX8_getSetting [.code yX8_getSetting cX8_getSetting 2 (some .int)] ({ frames := 1, cells := 0, slots := 0, locals := 22 } : Room) (va_Pc [.ref (ad 60), .int p1] (gB l gFull D cy ad base μ)) (gQ (some (.int RES.1)) gFull D cy ad base RES.2) 0 0 (gA base) := by
  refine Met.ofW (cc := cX8_getSetting) (maxL := 2) (ret := (some .int)) (by decide) rfl ?_
  intro p e s m args below meth c s₁ B hml0 hv
  obtain ⟨rfl, E, hM⟩ := hv
  have F : gF p s m meth c cX8_getSetting RX8 2 (some .int) := gF_of B hml0
  obtain ⟨hx, hb, hml, hown, hlocks, hr⟩ := id F
  have hS : va_S (gA base) s.heap s.heap [] := va_S.rf
  have hl := lv_entry ([.ref (ad 60), .int p1]) (n := 2) (Nat.le_of_ble_eq_true rfl)
  rw [lg_entry_eq]
  generalize (lg_sl ([.ref (ad 60), .int p1]) ++ List.replicate (2 - (lg_sl ([.ref (ad 60), .int p1])).length) Slot.unset).toArray = ls at hl ⊢
  have hl : lv_has ls 2 [(0, .ref (ad 60)), (1, .int p1)] := hl
  unfold f_X8_getSetting at h
  refine lv_aload_n hx hb dX8_getSetting_0 rfl (lv_at hl 0 rfl) ?_
  refine lv_iconst (v := (0 : Int32)) hx hb dX8_getSetting_1 (by decide) ?_
  refine gp_60_6 hx hb hown E hM hS hk_60 kw_1248 dX8_getSetting_2 (fun H locs hM hS => ?_)
  refine lv_iload_n hx hb dX8_getSetting_5 rfl (lv_at hl 1 rfl) ?_
  refine lv_iconst (v := (0 : Int32)) hx hb dX8_getSetting_6 (by decide) ?_
  refine lv_iconst (v := (2 : Int32)) hx hb dX8_getSetting_7 (by decide) ?_
  obtain ⟨q1, hq1, h⟩ := gbind_e h
  refine g_callS (As := [.int p1, .int (0 : Int32), .int (2 : Int32)]) (rest := []) hx hb (hml.trans hl.1.symm) hown E hM hS hy_X8_inRange kw_1379 (c_X8_inRange hq1) rfl rfl (Nat.le_of_ble_eq_true rfl) ⟨Nat.le_of_ble_eq_true rfl, Nat.le_of_ble_eq_true rfl⟩ ⟨Nat.le_of_ble_eq_true rfl, Nat.le_of_ble_eq_true rfl⟩ dX8_getSetting_8 (fun H locs hM hS => ?_)
  refine lv_if_eq (tgt := 23) hx hb dX8_getSetting_11 (by decide) (fun c2 => ?_) (fun c2 => ?_)
  · replace h := gif_t c2 h
    refine lv_bipush (v := (-2 : Int32)) hx hb dX8_getSetting_23 (by decide) ?_
    obtain rfl := Option.some.inj h
    exact g_iret hx hb hr hlocks hM hS dX8_getSetting_25
  · replace h := gif_f c2 h
    refine lv_aload_n hx hb dX8_getSetting_14 rfl (lv_at hl 0 rfl) ?_
    refine gg_60_0 hx hb hown E hM hk_60 kw_1242 dX8_getSetting_15 ?_
    refine lv_iload_n hx hb dX8_getSetting_18 rfl (lv_at hl 1 rfl) ?_
    obtain ⟨c3, h⟩ := gchk_e h
    refine g_iald hx hb E hM hk_61 dd_61 c3 dX8_getSetting_19 ?_
    refine lv_goto (tgt := 25) hx hb dX8_getSetting_20 (by decide) ?_
    obtain rfl := Option.some.inj h
    exact g_iret hx hb hr hlocks hM hS dX8_getSetting_25
def f_X8_collimation (p1 : Int32) (μ : gM) : Option (Int32 × gM) :=
  Option.bind (f_X8_isLevel p1 μ) (fun q1 => Option.bind (f_X8_fails (b2i q1) μ) (fun q2 => if ((b2i q2.1) = 0) then gchk (gIn ((3 : Int32) + p1) 703) (some ((gi q2.2 61 ((3 : Int32) + p1).toNatClampNeg), q2.2)) else some ((0 : Int32), q2.2)))
set_option maxHeartbeats 4000000 in
set_option maxRecDepth 100000 in
theorem c_X8_collimation {l : Launch} {D : va_G} {cy : Nat → ClassId} {ad : Nat → Nat} {base : Nat} {p1 : Int32} {μ : gM} {RES : Int32 × gM} (h : f_X8_collimation p1 μ = some RES) : Met l yX8_collimation [.code yX8_collimation cX8_collimation 2 (some .int)] ({ frames := 2, cells := 0, slots := 0, locals := 43 } : Room) (va_Pc [.ref (ad 60), .int p1] (gB l gFull D cy ad base μ)) (gQ (some (.int RES.1)) gFull D cy ad base RES.2) 0 0 (gA base) := by
  refine Met.ofW (cc := cX8_collimation) (maxL := 2) (ret := (some .int)) (by decide) rfl ?_
  intro p e s m args below meth c s₁ B hml0 hv
  obtain ⟨rfl, E, hM⟩ := hv
  have F : gF p s m meth c cX8_collimation RX8 2 (some .int) := gF_of B hml0
  obtain ⟨hx, hb, hml, hown, hlocks, hr⟩ := id F
  have hS : va_S (gA base) s.heap s.heap [] := va_S.rf
  have hl := lv_entry ([.ref (ad 60), .int p1]) (n := 2) (Nat.le_of_ble_eq_true rfl)
  rw [lg_entry_eq]
  generalize (lg_sl ([.ref (ad 60), .int p1]) ++ List.replicate (2 - (lg_sl ([.ref (ad 60), .int p1])).length) Slot.unset).toArray = ls at hl ⊢
  have hl : lv_has ls 2 [(0, .ref (ad 60)), (1, .int p1)] := hl
  unfold f_X8_collimation at h
  refine lv_aload_n hx hb dX8_collimation_0 rfl (lv_at hl 0 rfl) ?_
  refine lv_aload_n hx hb dX8_collimation_1 rfl (lv_at hl 0 rfl) ?_
  refine lv_iload_n hx hb dX8_collimation_2 rfl (lv_at hl 1 rfl) ?_
  obtain ⟨q1, hq1, h⟩ := gbind_e h
  refine g_callV (As := [.int p1]) (rest := [.ref (ad 60)]) hx hb (hml.trans hl.1.symm) hown E hM hS hy_X8_isLevel kw_1530 (c_X8_isLevel hq1) hk_60 dd_60 rfl rfl rfl (Nat.le_of_ble_eq_true rfl) ⟨Nat.le_of_ble_eq_true rfl, Nat.le_of_ble_eq_true rfl⟩ ⟨Nat.le_of_ble_eq_true rfl, Nat.le_of_ble_eq_true rfl⟩ dX8_collimation_3 (fun H locs hM hS => ?_)
  obtain ⟨q2, hq2, h⟩ := gbind_e h
  refine g_callV (As := [.int (b2i q1)]) (rest := []) hx hb (hml.trans hl.1.symm) hown E hM hS hy_X8_fails kw_1534 (c_X8_fails hq2) hk_60 dd_60 rfl rfl rfl (Nat.le_of_ble_eq_true rfl) ⟨Nat.le_of_ble_eq_true rfl, Nat.le_of_ble_eq_true rfl⟩ ⟨Nat.le_of_ble_eq_true rfl, Nat.le_of_ble_eq_true rfl⟩ dX8_collimation_6 (fun H locs hM hS => ?_)
  refine lv_if_eq (tgt := 16) hx hb dX8_collimation_9 (by decide) (fun c3 => ?_) (fun c3 => ?_)
  · replace h := gif_t c3 h
    refine lv_aload_n hx hb dX8_collimation_16 rfl (lv_at hl 0 rfl) ?_
    refine gg_60_0 hx hb hown E hM hk_60 kw_1242 dX8_collimation_17 ?_
    refine lv_iconst (v := (3 : Int32)) hx hb dX8_collimation_20 (by decide) ?_
    refine lv_iload_n hx hb dX8_collimation_21 rfl (lv_at hl 1 rfl) ?_
    refine lv_iadd hx hb dX8_collimation_22 ?_
    obtain ⟨c4, h⟩ := gchk_e h
    refine g_iald hx hb E hM hk_61 dd_61 c4 dX8_collimation_23 ?_
    obtain rfl := Option.some.inj h
    exact g_iret hx hb hr hlocks hM hS dX8_collimation_24
  · replace h := gif_f c3 h
    refine lv_iconst (v := (0 : Int32)) hx hb dX8_collimation_12 (by decide) ?_
    refine lv_goto (tgt := 24) hx hb dX8_collimation_13 (by decide) ?_
    obtain rfl := Option.some.inj h
    exact g_iret hx hb hr hlocks hM hS dX8_collimation_24
def f_X8_testOf (p1 : Int32) (p2 : Int32) (μ : gM) : Option (Int32) :=
  gchk (gIn ((((64 : Int32) + ((9 : Int32) * p1)) + (1 : Int32)) + p2) 137) (some (gi μ 66 ((((64 : Int32) + ((9 : Int32) * p1)) + (1 : Int32)) + p2).toNatClampNeg))
set_option maxHeartbeats 4000000 in
set_option maxRecDepth 100000 in
theorem c_X8_testOf {l : Launch} {D : va_G} {cy : Nat → ClassId} {ad : Nat → Nat} {base : Nat} {p1 : Int32} {p2 : Int32} {μ : gM} {RES : Int32} (h : f_X8_testOf p1 p2 μ = some RES) : Met l yX8_testOf [.code yX8_testOf cX8_testOf 3 (some .int)] ({ frames := 0, cells := 0, slots := 0, locals := 0 } : Room) (va_Pc [.ref (ad 60), .int p1, .int p2] (gB l gFull D cy ad base μ)) (gQ (some (.int RES)) gFull D cy ad base μ) 0 0 (gA base) := by
  refine Met.ofW (cc := cX8_testOf) (maxL := 3) (ret := (some .int)) (by decide) rfl ?_
  intro p e s m args below meth c s₁ B hml0 hv
  obtain ⟨rfl, E, hM⟩ := hv
  have F : gF p s m meth c cX8_testOf RX8 3 (some .int) := gF_of B hml0
  obtain ⟨hx, hb, hml, hown, hlocks, hr⟩ := id F
  have hS : va_S (gA base) s.heap s.heap [] := va_S.rf
  have hl := lv_entry ([.ref (ad 60), .int p1, .int p2]) (n := 3) (Nat.le_of_ble_eq_true rfl)
  rw [lg_entry_eq]
  generalize (lg_sl ([.ref (ad 60), .int p1, .int p2]) ++ List.replicate (3 - (lg_sl ([.ref (ad 60), .int p1, .int p2])).length) Slot.unset).toArray = ls at hl ⊢
  have hl : lv_has ls 3 [(0, .ref (ad 60)), (1, .int p1), (2, .int p2)] := hl
  unfold f_X8_testOf at h
  refine lv_aload_n hx hb dX8_testOf_0 rfl (lv_at hl 0 rfl) ?_
  refine gg_60_7 hx hb hown E hM hk_60 kw_1249 dX8_testOf_1 ?_
  refine lv_bipush (v := (64 : Int32)) hx hb dX8_testOf_4 (by decide) ?_
  refine lv_bipush (v := (9 : Int32)) hx hb dX8_testOf_6 (by decide) ?_
  refine lv_iload_n hx hb dX8_testOf_8 rfl (lv_at hl 1 rfl) ?_
  refine lv_imul hx hb dX8_testOf_9 ?_
  refine lv_iadd hx hb dX8_testOf_10 ?_
  refine lv_iconst (v := (1 : Int32)) hx hb dX8_testOf_11 (by decide) ?_
  refine lv_iadd hx hb dX8_testOf_12 ?_
  refine lv_iload_n hx hb dX8_testOf_13 rfl (lv_at hl 2 rfl) ?_
  refine lv_iadd hx hb dX8_testOf_14 ?_
  obtain ⟨c1, h⟩ := gchk_e h
  refine g_iald hx hb E hM hk_66 dd_66 c1 dX8_testOf_15 ?_
  obtain rfl := Option.some.inj h
  exact g_iret hx hb hr hlocks hM hS dX8_testOf_16
def f_X8_apart (p1 : Int32) (μ : gM) : Option (Int32) :=
  Option.bind (f_X8_testOf p1 (0 : Int32) μ) (fun q1 => Option.bind (f_X8_testOf p1 (1 : Int32) μ) (fun q2 => Option.bind (f_X8_testOf p1 (4 : Int32) μ) (fun q3 => Option.bind (f_X8_testOf p1 (5 : Int32) μ) (fun q4 => some ((q1 - q2) - (q3 - q4))))))
set_option maxHeartbeats 4000000 in
set_option maxRecDepth 100000 in
theorem c_X8_apart {l : Launch} {D : va_G} {cy : Nat → ClassId} {ad : Nat → Nat} {base : Nat} {p1 : Int32} {μ : gM} {RES : Int32} (h : f_X8_apart p1 μ = some RES) : Met l yX8_apart [.code yX8_apart cX8_apart 2 (some .int)] ({ frames := 1, cells := 0, slots := 0, locals := 22 } : Room) (va_Pc [.ref (ad 60), .int p1] (gB l gFull D cy ad base μ)) (gQ (some (.int RES)) gFull D cy ad base μ) 0 0 (gA base) := by
  refine Met.ofW (cc := cX8_apart) (maxL := 2) (ret := (some .int)) (by decide) rfl ?_
  intro p e s m args below meth c s₁ B hml0 hv
  obtain ⟨rfl, E, hM⟩ := hv
  have F : gF p s m meth c cX8_apart RX8 2 (some .int) := gF_of B hml0
  obtain ⟨hx, hb, hml, hown, hlocks, hr⟩ := id F
  have hS : va_S (gA base) s.heap s.heap [] := va_S.rf
  have hl := lv_entry ([.ref (ad 60), .int p1]) (n := 2) (Nat.le_of_ble_eq_true rfl)
  rw [lg_entry_eq]
  generalize (lg_sl ([.ref (ad 60), .int p1]) ++ List.replicate (2 - (lg_sl ([.ref (ad 60), .int p1])).length) Slot.unset).toArray = ls at hl ⊢
  have hl : lv_has ls 2 [(0, .ref (ad 60)), (1, .int p1)] := hl
  unfold f_X8_apart at h
  refine lv_aload_n hx hb dX8_apart_0 rfl (lv_at hl 0 rfl) ?_
  refine lv_iload_n hx hb dX8_apart_1 rfl (lv_at hl 1 rfl) ?_
  refine lv_iconst (v := (0 : Int32)) hx hb dX8_apart_2 (by decide) ?_
  obtain ⟨q1, hq1, h⟩ := gbind_e h
  refine g_callV (As := [.int p1, .int (0 : Int32)]) (rest := []) hx hb (hml.trans hl.1.symm) hown E hM hS hy_X8_testOf kw_1550 (c_X8_testOf hq1) hk_60 dd_60 rfl rfl rfl (Nat.le_of_ble_eq_true rfl) ⟨Nat.le_of_ble_eq_true rfl, Nat.le_of_ble_eq_true rfl⟩ ⟨Nat.le_of_ble_eq_true rfl, Nat.le_of_ble_eq_true rfl⟩ dX8_apart_3 (fun H locs hM hS => ?_)
  refine lv_aload_n hx hb dX8_apart_6 rfl (lv_at hl 0 rfl) ?_
  refine lv_iload_n hx hb dX8_apart_7 rfl (lv_at hl 1 rfl) ?_
  refine lv_iconst (v := (1 : Int32)) hx hb dX8_apart_8 (by decide) ?_
  obtain ⟨q2, hq2, h⟩ := gbind_e h
  refine g_callV (As := [.int p1, .int (1 : Int32)]) (rest := [.int q1]) hx hb (hml.trans hl.1.symm) hown E hM hS hy_X8_testOf kw_1550 (c_X8_testOf hq2) hk_60 dd_60 rfl rfl rfl (Nat.le_of_ble_eq_true rfl) ⟨Nat.le_of_ble_eq_true rfl, Nat.le_of_ble_eq_true rfl⟩ ⟨Nat.le_of_ble_eq_true rfl, Nat.le_of_ble_eq_true rfl⟩ dX8_apart_9 (fun H locs hM hS => ?_)
  refine lv_isub hx hb dX8_apart_12 ?_
  refine lv_aload_n hx hb dX8_apart_13 rfl (lv_at hl 0 rfl) ?_
  refine lv_iload_n hx hb dX8_apart_14 rfl (lv_at hl 1 rfl) ?_
  refine lv_iconst (v := (4 : Int32)) hx hb dX8_apart_15 (by decide) ?_
  obtain ⟨q3, hq3, h⟩ := gbind_e h
  refine g_callV (As := [.int p1, .int (4 : Int32)]) (rest := [.int (q1 - q2)]) hx hb (hml.trans hl.1.symm) hown E hM hS hy_X8_testOf kw_1550 (c_X8_testOf hq3) hk_60 dd_60 rfl rfl rfl (Nat.le_of_ble_eq_true rfl) ⟨Nat.le_of_ble_eq_true rfl, Nat.le_of_ble_eq_true rfl⟩ ⟨Nat.le_of_ble_eq_true rfl, Nat.le_of_ble_eq_true rfl⟩ dX8_apart_16 (fun H locs hM hS => ?_)
  refine lv_aload_n hx hb dX8_apart_19 rfl (lv_at hl 0 rfl) ?_
  refine lv_iload_n hx hb dX8_apart_20 rfl (lv_at hl 1 rfl) ?_
  refine lv_iconst (v := (5 : Int32)) hx hb dX8_apart_21 (by decide) ?_
  obtain ⟨q4, hq4, h⟩ := gbind_e h
  refine g_callV (As := [.int p1, .int (5 : Int32)]) (rest := [.int q3, .int (q1 - q2)]) hx hb (hml.trans hl.1.symm) hown E hM hS hy_X8_testOf kw_1550 (c_X8_testOf hq4) hk_60 dd_60 rfl rfl rfl (Nat.le_of_ble_eq_true rfl) ⟨Nat.le_of_ble_eq_true rfl, Nat.le_of_ble_eq_true rfl⟩ ⟨Nat.le_of_ble_eq_true rfl, Nat.le_of_ble_eq_true rfl⟩ dX8_apart_22 (fun H locs hM hS => ?_)
  refine lv_isub hx hb dX8_apart_25 ?_
  refine lv_isub hx hb dX8_apart_26 ?_
  obtain rfl := Option.some.inj h
  exact g_iret hx hb hr hlocks hM hS dX8_apart_27
def f_X8_result (p1 : Int32) (μ : gM) : Option (Int32) :=
  Option.bind (f_X8_testOf p1 (2 : Int32) μ) (fun q1 => Option.bind (f_X8_testOf p1 (3 : Int32) μ) (fun q2 => Option.bind (f_X8_testOf p1 (6 : Int32) μ) (fun q3 => Option.bind (f_X8_testOf p1 (7 : Int32) μ) (fun q4 => if (((q1 - q2) - (q3 - q4)) = 0) then some (-2147483648 : Int32) else Option.bind (f_X8_apart p1 μ) (fun q6 => gchk (¬ ((q1 - q2) - (q3 - q4)) = 0) (Option.bind (f_X8_inRange (((100 : Int32) * q6) / ((q1 - q2) - (q3 - q4))) (-200 : Int32) (200 : Int32) μ) (fun q7 => if ((b2i q7) = 0) then some (-2147483648 : Int32) else some (((100 : Int32) * q6) / ((q1 - q2) - (q3 - q4))))))))))
set_option maxHeartbeats 4000000 in
set_option maxRecDepth 100000 in
theorem c_X8_result {l : Launch} {D : va_G} {cy : Nat → ClassId} {ad : Nat → Nat} {base : Nat} {p1 : Int32} {μ : gM} {RES : Int32} (h : f_X8_result p1 μ = some RES) : Met l yX8_result [.code yX8_result cX8_result 4 (some .int)] ({ frames := 2, cells := 0, slots := 0, locals := 43 } : Room) (va_Pc [.ref (ad 60), .int p1] (gB l gFull D cy ad base μ)) (gQ (some (.int RES)) gFull D cy ad base μ) 0 0 (gA base) := by
  refine Met.ofW (cc := cX8_result) (maxL := 4) (ret := (some .int)) (by decide) rfl ?_
  intro p e s m args below meth c s₁ B hml0 hv
  obtain ⟨rfl, E, hM⟩ := hv
  have F : gF p s m meth c cX8_result RX8 4 (some .int) := gF_of B hml0
  obtain ⟨hx, hb, hml, hown, hlocks, hr⟩ := id F
  have hS : va_S (gA base) s.heap s.heap [] := va_S.rf
  have hl := lv_entry ([.ref (ad 60), .int p1]) (n := 4) (Nat.le_of_ble_eq_true rfl)
  rw [lg_entry_eq]
  generalize (lg_sl ([.ref (ad 60), .int p1]) ++ List.replicate (4 - (lg_sl ([.ref (ad 60), .int p1])).length) Slot.unset).toArray = ls at hl ⊢
  have hl : lv_has ls 4 [(0, .ref (ad 60)), (1, .int p1)] := hl
  unfold f_X8_result at h
  refine lv_aload_n hx hb dX8_result_0 rfl (lv_at hl 0 rfl) ?_
  refine lv_iload_n hx hb dX8_result_1 rfl (lv_at hl 1 rfl) ?_
  refine lv_iconst (v := (2 : Int32)) hx hb dX8_result_2 (by decide) ?_
  obtain ⟨q1, hq1, h⟩ := gbind_e h
  refine g_callV (As := [.int p1, .int (2 : Int32)]) (rest := []) hx hb (hml.trans hl.1.symm) hown E hM hS hy_X8_testOf kw_1550 (c_X8_testOf hq1) hk_60 dd_60 rfl rfl rfl (Nat.le_of_ble_eq_true rfl) ⟨Nat.le_of_ble_eq_true rfl, Nat.le_of_ble_eq_true rfl⟩ ⟨Nat.le_of_ble_eq_true rfl, Nat.le_of_ble_eq_true rfl⟩ dX8_result_3 (fun H locs hM hS => ?_)
  refine lv_aload_n hx hb dX8_result_6 rfl (lv_at hl 0 rfl) ?_
  refine lv_iload_n hx hb dX8_result_7 rfl (lv_at hl 1 rfl) ?_
  refine lv_iconst (v := (3 : Int32)) hx hb dX8_result_8 (by decide) ?_
  obtain ⟨q2, hq2, h⟩ := gbind_e h
  refine g_callV (As := [.int p1, .int (3 : Int32)]) (rest := [.int q1]) hx hb (hml.trans hl.1.symm) hown E hM hS hy_X8_testOf kw_1550 (c_X8_testOf hq2) hk_60 dd_60 rfl rfl rfl (Nat.le_of_ble_eq_true rfl) ⟨Nat.le_of_ble_eq_true rfl, Nat.le_of_ble_eq_true rfl⟩ ⟨Nat.le_of_ble_eq_true rfl, Nat.le_of_ble_eq_true rfl⟩ dX8_result_9 (fun H locs hM hS => ?_)
  refine lv_isub hx hb dX8_result_12 ?_
  refine lv_aload_n hx hb dX8_result_13 rfl (lv_at hl 0 rfl) ?_
  refine lv_iload_n hx hb dX8_result_14 rfl (lv_at hl 1 rfl) ?_
  refine lv_bipush (v := (6 : Int32)) hx hb dX8_result_15 (by decide) ?_
  obtain ⟨q3, hq3, h⟩ := gbind_e h
  refine g_callV (As := [.int p1, .int (6 : Int32)]) (rest := [.int (q1 - q2)]) hx hb (hml.trans hl.1.symm) hown E hM hS hy_X8_testOf kw_1550 (c_X8_testOf hq3) hk_60 dd_60 rfl rfl rfl (Nat.le_of_ble_eq_true rfl) ⟨Nat.le_of_ble_eq_true rfl, Nat.le_of_ble_eq_true rfl⟩ ⟨Nat.le_of_ble_eq_true rfl, Nat.le_of_ble_eq_true rfl⟩ dX8_result_17 (fun H locs hM hS => ?_)
  refine lv_aload_n hx hb dX8_result_20 rfl (lv_at hl 0 rfl) ?_
  refine lv_iload_n hx hb dX8_result_21 rfl (lv_at hl 1 rfl) ?_
  refine lv_bipush (v := (7 : Int32)) hx hb dX8_result_22 (by decide) ?_
  obtain ⟨q4, hq4, h⟩ := gbind_e h
  refine g_callV (As := [.int p1, .int (7 : Int32)]) (rest := [.int q3, .int (q1 - q2)]) hx hb (hml.trans hl.1.symm) hown E hM hS hy_X8_testOf kw_1550 (c_X8_testOf hq4) hk_60 dd_60 rfl rfl rfl (Nat.le_of_ble_eq_true rfl) ⟨Nat.le_of_ble_eq_true rfl, Nat.le_of_ble_eq_true rfl⟩ ⟨Nat.le_of_ble_eq_true rfl, Nat.le_of_ble_eq_true rfl⟩ dX8_result_24 (fun H locs hM hS => ?_)
  refine lv_isub hx hb dX8_result_27 ?_
  refine lv_isub hx hb dX8_result_28 ?_
  refine lv_istore_n (lv' := [(2, .int ((q1 - q2) - (q3 - q4))), (0, .ref (ad 60)), (1, .int p1)]) hx hb dX8_result_29 rfl hl (by decide) rfl (fun ls hl => ?_)
  refine lv_iload_n hx hb dX8_result_30 rfl (lv_at hl 0 rfl) ?_
  refine lv_if_ne (tgt := 37) hx hb dX8_result_31 (by decide) (fun c5 => ?_) (fun c5 => ?_)
  · replace h := gif_f c5 h
    refine lv_bipush (v := (100 : Int32)) hx hb dX8_result_37 (by decide) ?_
    refine lv_aload_n hx hb dX8_result_39 rfl (lv_at hl 1 rfl) ?_
    refine lv_iload_n hx hb dX8_result_40 rfl (lv_at hl 2 rfl) ?_
    obtain ⟨q6, hq6, h⟩ := gbind_e h
    refine g_callV (As := [.int p1]) (rest := [.int (100 : Int32)]) hx hb (hml.trans hl.1.symm) hown E hM hS hy_X8_apart kw_1555 (c_X8_apart hq6) hk_60 dd_60 rfl rfl rfl (Nat.le_of_ble_eq_true rfl) ⟨Nat.le_of_ble_eq_true rfl, Nat.le_of_ble_eq_true rfl⟩ ⟨Nat.le_of_ble_eq_true rfl, Nat.le_of_ble_eq_true rfl⟩ dX8_result_41 (fun H locs hM hS => ?_)
    refine lv_imul hx hb dX8_result_44 ?_
    refine lv_iload_n hx hb dX8_result_45 rfl (lv_at hl 0 rfl) ?_
    obtain ⟨c9, h⟩ := gchk_e h
    refine lv_idiv hx hb dX8_result_46 c9 ?_
    refine lv_istore_n (lv' := [(3, .int (((100 : Int32) * q6) / ((q1 - q2) - (q3 - q4)))), (2, .int ((q1 - q2) - (q3 - q4))), (0, .ref (ad 60)), (1, .int p1)]) hx hb dX8_result_47 rfl hl (by decide) rfl (fun ls hl => ?_)
    refine lv_iload_n hx hb dX8_result_48 rfl (lv_at hl 0 rfl) ?_
    refine lv_sipush (v := (-200 : Int32)) hx hb dX8_result_49 (by decide) ?_
    refine lv_sipush (v := (200 : Int32)) hx hb dX8_result_52 (by decide) ?_
    obtain ⟨q7, hq7, h⟩ := gbind_e h
    refine g_callS (As := [.int (((100 : Int32) * q6) / ((q1 - q2) - (q3 - q4))), .int (-200 : Int32), .int (200 : Int32)]) (rest := []) hx hb (hml.trans hl.1.symm) hown E hM hS hy_X8_inRange kw_1379 (c_X8_inRange hq7) rfl rfl (Nat.le_of_ble_eq_true rfl) ⟨Nat.le_of_ble_eq_true rfl, Nat.le_of_ble_eq_true rfl⟩ ⟨Nat.le_of_ble_eq_true rfl, Nat.le_of_ble_eq_true rfl⟩ dX8_result_55 (fun H locs hM hS => ?_)
    refine lv_if_eq (tgt := 65) hx hb dX8_result_58 (by decide) (fun c8 => ?_) (fun c8 => ?_)
    · replace h := gif_t c8 h
      refine lv_ldc hx hb hown (v := (-2147483648 : Int32)) (E.kw kw_1554) dX8_result_65 ?_
      obtain rfl := Option.some.inj h
      exact g_iret hx hb hr hlocks hM hS dX8_result_67
    · replace h := gif_f c8 h
      refine lv_iload_n hx hb dX8_result_61 rfl (lv_at hl 0 rfl) ?_
      refine lv_goto (tgt := 67) hx hb dX8_result_62 (by decide) ?_
      obtain rfl := Option.some.inj h
      exact g_iret hx hb hr hlocks hM hS dX8_result_67
  · replace h := gif_t c5 h
    refine lv_ldc hx hb hown (v := (-2147483648 : Int32)) (E.kw kw_1554) dX8_result_34 ?_
    obtain rfl := Option.some.inj h
    exact g_iret hx hb hr hlocks hM hS dX8_result_36
def f_X8_testNumber (p1 : Int32) (p2 : Int32) (μ : gM) : Option (Int32 × gM) :=
  Option.bind (f_X8_isTest p1 μ) (fun q1 => Option.bind (f_X8_fails (b2i q1) μ) (fun q2 => if ((b2i q2.1) = 0) then if (p2 = 0) then gchk (gIn ((64 : Int32) + ((9 : Int32) * p1)) 137) (some ((gi q2.2 66 ((64 : Int32) + ((9 : Int32) * p1)).toNatClampNeg), q2.2)) else if (p2 = (1 : Int32)) then Option.bind (f_X8_result p1 q2.2) (fun q8 => some (q8, q2.2)) else if (p2 = (2 : Int32)) then Option.bind (f_X8_apart p1 q2.2) (fun q7 => some (q7, q2.2)) else some ((-2147483648 : Int32), q2.2) else some ((0 : Int32), q2.2)))
set_option maxHeartbeats 4000000 in
set_option maxRecDepth 100000 in
theorem c_X8_testNumber {l : Launch} {D : va_G} {cy : Nat → ClassId} {ad : Nat → Nat} {base : Nat} {p1 : Int32} {p2 : Int32} {μ : gM} {RES : Int32 × gM} (h : f_X8_testNumber p1 p2 μ = some RES) : Met l yX8_testNumber [.code yX8_testNumber cX8_testNumber 3 (some .int)] ({ frames := 3, cells := 0, slots := 0, locals := 66 } : Room) (va_Pc [.ref (ad 60), .int p1, .int p2] (gB l gFull D cy ad base μ)) (gQ (some (.int RES.1)) gFull D cy ad base RES.2) 0 0 (gA base) := by
  refine Met.ofW (cc := cX8_testNumber) (maxL := 3) (ret := (some .int)) (by decide) rfl ?_
  intro p e s m args below meth c s₁ B hml0 hv
  obtain ⟨rfl, E, hM⟩ := hv
  have F : gF p s m meth c cX8_testNumber RX8 3 (some .int) := gF_of B hml0
  obtain ⟨hx, hb, hml, hown, hlocks, hr⟩ := id F
  have hS : va_S (gA base) s.heap s.heap [] := va_S.rf
  have hl := lv_entry ([.ref (ad 60), .int p1, .int p2]) (n := 3) (Nat.le_of_ble_eq_true rfl)
  rw [lg_entry_eq]
  generalize (lg_sl ([.ref (ad 60), .int p1, .int p2]) ++ List.replicate (3 - (lg_sl ([.ref (ad 60), .int p1, .int p2])).length) Slot.unset).toArray = ls at hl ⊢
  have hl : lv_has ls 3 [(0, .ref (ad 60)), (1, .int p1), (2, .int p2)] := hl
  unfold f_X8_testNumber at h
  refine lv_aload_n hx hb dX8_testNumber_0 rfl (lv_at hl 0 rfl) ?_
  refine lv_aload_n hx hb dX8_testNumber_1 rfl (lv_at hl 0 rfl) ?_
  refine lv_iload_n hx hb dX8_testNumber_2 rfl (lv_at hl 1 rfl) ?_
  obtain ⟨q1, hq1, h⟩ := gbind_e h
  refine g_callV (As := [.int p1]) (rest := [.ref (ad 60)]) hx hb (hml.trans hl.1.symm) hown E hM hS hy_X8_isTest kw_1542 (c_X8_isTest hq1) hk_60 dd_60 rfl rfl rfl (Nat.le_of_ble_eq_true rfl) ⟨Nat.le_of_ble_eq_true rfl, Nat.le_of_ble_eq_true rfl⟩ ⟨Nat.le_of_ble_eq_true rfl, Nat.le_of_ble_eq_true rfl⟩ dX8_testNumber_3 (fun H locs hM hS => ?_)
  obtain ⟨q2, hq2, h⟩ := gbind_e h
  refine g_callV (As := [.int (b2i q1)]) (rest := []) hx hb (hml.trans hl.1.symm) hown E hM hS hy_X8_fails kw_1534 (c_X8_fails hq2) hk_60 dd_60 rfl rfl rfl (Nat.le_of_ble_eq_true rfl) ⟨Nat.le_of_ble_eq_true rfl, Nat.le_of_ble_eq_true rfl⟩ ⟨Nat.le_of_ble_eq_true rfl, Nat.le_of_ble_eq_true rfl⟩ dX8_testNumber_6 (fun H locs hM hS => ?_)
  refine lv_if_eq (tgt := 14) hx hb dX8_testNumber_9 (by decide) (fun c3 => ?_) (fun c3 => ?_)
  · replace h := gif_t c3 h
    refine lv_iload_n hx hb dX8_testNumber_14 rfl (lv_at hl 2 rfl) ?_
    refine lv_if_ne (tgt := 33) hx hb dX8_testNumber_15 (by decide) (fun c4 => ?_) (fun c4 => ?_)
    · replace h := gif_f c4 h
      refine lv_iload_n hx hb dX8_testNumber_33 rfl (lv_at hl 2 rfl) ?_
      refine lv_iconst (v := (1 : Int32)) hx hb dX8_testNumber_34 (by decide) ?_
      refine lv_icmp_ne (tgt := 46) hx hb dX8_testNumber_35 (by decide) (fun c5 => ?_) (fun c5 => ?_)
      · replace h := gif_f c5 h
        refine lv_iload_n hx hb dX8_testNumber_46 rfl (lv_at hl 2 rfl) ?_
        refine lv_iconst (v := (2 : Int32)) hx hb dX8_testNumber_47 (by decide) ?_
        refine lv_icmp_ne (tgt := 59) hx hb dX8_testNumber_48 (by decide) (fun c6 => ?_) (fun c6 => ?_)
        · replace h := gif_f c6 h
          refine lv_ldc hx hb hown (v := (-2147483648 : Int32)) (E.kw kw_1554) dX8_testNumber_59 ?_
          obtain rfl := Option.some.inj h
          exact g_iret hx hb hr hlocks hM hS dX8_testNumber_61
        · replace h := gif_t c6 h
          refine lv_aload_n hx hb dX8_testNumber_51 rfl (lv_at hl 0 rfl) ?_
          refine lv_iload_n hx hb dX8_testNumber_52 rfl (lv_at hl 1 rfl) ?_
          obtain ⟨q7, hq7, h⟩ := gbind_e h
          refine g_callV (As := [.int p1]) (rest := []) hx hb (hml.trans hl.1.symm) hown E hM hS hy_X8_apart kw_1555 (c_X8_apart hq7) hk_60 dd_60 rfl rfl rfl (Nat.le_of_ble_eq_true rfl) ⟨Nat.le_of_ble_eq_true rfl, Nat.le_of_ble_eq_true rfl⟩ ⟨Nat.le_of_ble_eq_true rfl, Nat.le_of_ble_eq_true rfl⟩ dX8_testNumber_53 (fun H locs hM hS => ?_)
          refine lv_goto (tgt := 61) hx hb dX8_testNumber_56 (by decide) ?_
          obtain rfl := Option.some.inj h
          exact g_iret hx hb hr hlocks hM hS dX8_testNumber_61
      · replace h := gif_t c5 h
        refine lv_aload_n hx hb dX8_testNumber_38 rfl (lv_at hl 0 rfl) ?_
        refine lv_iload_n hx hb dX8_testNumber_39 rfl (lv_at hl 1 rfl) ?_
        obtain ⟨q8, hq8, h⟩ := gbind_e h
        refine g_callV (As := [.int p1]) (rest := []) hx hb (hml.trans hl.1.symm) hown E hM hS hy_X8_result kw_1546 (c_X8_result hq8) hk_60 dd_60 rfl rfl rfl (Nat.le_of_ble_eq_true rfl) ⟨Nat.le_of_ble_eq_true rfl, Nat.le_of_ble_eq_true rfl⟩ ⟨Nat.le_of_ble_eq_true rfl, Nat.le_of_ble_eq_true rfl⟩ dX8_testNumber_40 (fun H locs hM hS => ?_)
        refine lv_goto (tgt := 61) hx hb dX8_testNumber_43 (by decide) ?_
        obtain rfl := Option.some.inj h
        exact g_iret hx hb hr hlocks hM hS dX8_testNumber_61
    · replace h := gif_t c4 h
      refine lv_aload_n hx hb dX8_testNumber_18 rfl (lv_at hl 0 rfl) ?_
      refine gg_60_7 hx hb hown E hM hk_60 kw_1249 dX8_testNumber_19 ?_
      refine lv_bipush (v := (64 : Int32)) hx hb dX8_testNumber_22 (by decide) ?_
      refine lv_bipush (v := (9 : Int32)) hx hb dX8_testNumber_24 (by decide) ?_
      refine lv_iload_n hx hb dX8_testNumber_26 rfl (lv_at hl 1 rfl) ?_
      refine lv_imul hx hb dX8_testNumber_27 ?_
      refine lv_iadd hx hb dX8_testNumber_28 ?_
      obtain ⟨c9, h⟩ := gchk_e h
      refine g_iald hx hb E hM hk_66 dd_66 c9 dX8_testNumber_29 ?_
      refine lv_goto (tgt := 61) hx hb dX8_testNumber_30 (by decide) ?_
      obtain rfl := Option.some.inj h
      exact g_iret hx hb hr hlocks hM hS dX8_testNumber_61
  · replace h := gif_f c3 h
    refine lv_iconst (v := (0 : Int32)) hx hb dX8_testNumber_12 (by decide) ?_
    obtain rfl := Option.some.inj h
    exact g_iret hx hb hr hlocks hM hS dX8_testNumber_13
def f_X8_heldAt (p1 : Int32) (μ : gM) : Option (Int32 × gM) :=
  Option.bind (f_X8_isPoint p1 μ) (fun q1 => Option.bind (f_X8_fails (b2i q1) μ) (fun q2 => if ((b2i q2.1) = 0) then gchk (gIn ((6 : Int32) + p1) 703) (some ((gi q2.2 61 ((6 : Int32) + p1).toNatClampNeg), q2.2)) else some ((0 : Int32), q2.2)))
set_option maxHeartbeats 4000000 in
set_option maxRecDepth 100000 in
theorem c_X8_heldAt {l : Launch} {D : va_G} {cy : Nat → ClassId} {ad : Nat → Nat} {base : Nat} {p1 : Int32} {μ : gM} {RES : Int32 × gM} (h : f_X8_heldAt p1 μ = some RES) : Met l yX8_heldAt [.code yX8_heldAt cX8_heldAt 2 (some .int)] ({ frames := 2, cells := 0, slots := 0, locals := 43 } : Room) (va_Pc [.ref (ad 60), .int p1] (gB l gFull D cy ad base μ)) (gQ (some (.int RES.1)) gFull D cy ad base RES.2) 0 0 (gA base) := by
  refine Met.ofW (cc := cX8_heldAt) (maxL := 2) (ret := (some .int)) (by decide) rfl ?_
  intro p e s m args below meth c s₁ B hml0 hv
  obtain ⟨rfl, E, hM⟩ := hv
  have F : gF p s m meth c cX8_heldAt RX8 2 (some .int) := gF_of B hml0
  obtain ⟨hx, hb, hml, hown, hlocks, hr⟩ := id F
  have hS : va_S (gA base) s.heap s.heap [] := va_S.rf
  have hl := lv_entry ([.ref (ad 60), .int p1]) (n := 2) (Nat.le_of_ble_eq_true rfl)
  rw [lg_entry_eq]
  generalize (lg_sl ([.ref (ad 60), .int p1]) ++ List.replicate (2 - (lg_sl ([.ref (ad 60), .int p1])).length) Slot.unset).toArray = ls at hl ⊢
  have hl : lv_has ls 2 [(0, .ref (ad 60)), (1, .int p1)] := hl
  unfold f_X8_heldAt at h
  refine lv_aload_n hx hb dX8_heldAt_0 rfl (lv_at hl 0 rfl) ?_
  refine lv_aload_n hx hb dX8_heldAt_1 rfl (lv_at hl 0 rfl) ?_
  refine lv_iload_n hx hb dX8_heldAt_2 rfl (lv_at hl 1 rfl) ?_
  obtain ⟨q1, hq1, h⟩ := gbind_e h
  refine g_callV (As := [.int p1]) (rest := [.ref (ad 60)]) hx hb (hml.trans hl.1.symm) hown E hM hS hy_X8_isPoint kw_1563 (c_X8_isPoint hq1) hk_60 dd_60 rfl rfl rfl (Nat.le_of_ble_eq_true rfl) ⟨Nat.le_of_ble_eq_true rfl, Nat.le_of_ble_eq_true rfl⟩ ⟨Nat.le_of_ble_eq_true rfl, Nat.le_of_ble_eq_true rfl⟩ dX8_heldAt_3 (fun H locs hM hS => ?_)
  obtain ⟨q2, hq2, h⟩ := gbind_e h
  refine g_callV (As := [.int (b2i q1)]) (rest := []) hx hb (hml.trans hl.1.symm) hown E hM hS hy_X8_fails kw_1534 (c_X8_fails hq2) hk_60 dd_60 rfl rfl rfl (Nat.le_of_ble_eq_true rfl) ⟨Nat.le_of_ble_eq_true rfl, Nat.le_of_ble_eq_true rfl⟩ ⟨Nat.le_of_ble_eq_true rfl, Nat.le_of_ble_eq_true rfl⟩ dX8_heldAt_6 (fun H locs hM hS => ?_)
  refine lv_if_eq (tgt := 16) hx hb dX8_heldAt_9 (by decide) (fun c3 => ?_) (fun c3 => ?_)
  · replace h := gif_t c3 h
    refine lv_aload_n hx hb dX8_heldAt_16 rfl (lv_at hl 0 rfl) ?_
    refine gg_60_0 hx hb hown E hM hk_60 kw_1242 dX8_heldAt_17 ?_
    refine lv_bipush (v := (6 : Int32)) hx hb dX8_heldAt_20 (by decide) ?_
    refine lv_iload_n hx hb dX8_heldAt_22 rfl (lv_at hl 1 rfl) ?_
    refine lv_iadd hx hb dX8_heldAt_23 ?_
    obtain ⟨c4, h⟩ := gchk_e h
    refine g_iald hx hb E hM hk_61 dd_61 c4 dX8_heldAt_24 ?_
    obtain rfl := Option.some.inj h
    exact g_iret hx hb hr hlocks hM hS dX8_heldAt_25
  · replace h := gif_f c3 h
    refine lv_iconst (v := (0 : Int32)) hx hb dX8_heldAt_12 (by decide) ?_
    refine lv_goto (tgt := 25) hx hb dX8_heldAt_13 (by decide) ?_
    obtain rfl := Option.some.inj h
    exact g_iret hx hb hr hlocks hM hS dX8_heldAt_25
def f_X8_first (p1 : Int32) (μ : gM) : Option (Int32) :=
  gchk (gIn ((4 : Int32) + p1) 137) (some (gi μ 66 ((4 : Int32) + p1).toNatClampNeg))
set_option maxHeartbeats 4000000 in
set_option maxRecDepth 100000 in
theorem c_X8_first {l : Launch} {D : va_G} {cy : Nat → ClassId} {ad : Nat → Nat} {base : Nat} {p1 : Int32} {μ : gM} {RES : Int32} (h : f_X8_first p1 μ = some RES) : Met l yX8_first [.code yX8_first cX8_first 2 (some .int)] ({ frames := 0, cells := 0, slots := 0, locals := 0 } : Room) (va_Pc [.ref (ad 60), .int p1] (gB l gFull D cy ad base μ)) (gQ (some (.int RES)) gFull D cy ad base μ) 0 0 (gA base) := by
  refine Met.ofW (cc := cX8_first) (maxL := 2) (ret := (some .int)) (by decide) rfl ?_
  intro p e s m args below meth c s₁ B hml0 hv
  obtain ⟨rfl, E, hM⟩ := hv
  have F : gF p s m meth c cX8_first RX8 2 (some .int) := gF_of B hml0
  obtain ⟨hx, hb, hml, hown, hlocks, hr⟩ := id F
  have hS : va_S (gA base) s.heap s.heap [] := va_S.rf
  have hl := lv_entry ([.ref (ad 60), .int p1]) (n := 2) (Nat.le_of_ble_eq_true rfl)
  rw [lg_entry_eq]
  generalize (lg_sl ([.ref (ad 60), .int p1]) ++ List.replicate (2 - (lg_sl ([.ref (ad 60), .int p1])).length) Slot.unset).toArray = ls at hl ⊢
  have hl : lv_has ls 2 [(0, .ref (ad 60)), (1, .int p1)] := hl
  unfold f_X8_first at h
  refine lv_aload_n hx hb dX8_first_0 rfl (lv_at hl 0 rfl) ?_
  refine gg_60_7 hx hb hown E hM hk_60 kw_1249 dX8_first_1 ?_
  refine lv_iconst (v := (4 : Int32)) hx hb dX8_first_4 (by decide) ?_
  refine lv_iload_n hx hb dX8_first_5 rfl (lv_at hl 1 rfl) ?_
  refine lv_iadd hx hb dX8_first_6 ?_
  obtain ⟨c1, h⟩ := gchk_e h
  refine g_iald hx hb E hM hk_66 dd_66 c1 dX8_first_7 ?_
  obtain rfl := Option.some.inj h
  exact g_iret hx hb hr hlocks hM hS dX8_first_8
def f_X8_second (p1 : Int32) (μ : gM) : Option (Int32) :=
  gchk (gIn ((24 : Int32) + p1) 137) (some (gi μ 66 ((24 : Int32) + p1).toNatClampNeg))
set_option maxHeartbeats 4000000 in
set_option maxRecDepth 100000 in
theorem c_X8_second {l : Launch} {D : va_G} {cy : Nat → ClassId} {ad : Nat → Nat} {base : Nat} {p1 : Int32} {μ : gM} {RES : Int32} (h : f_X8_second p1 μ = some RES) : Met l yX8_second [.code yX8_second cX8_second 2 (some .int)] ({ frames := 0, cells := 0, slots := 0, locals := 0 } : Room) (va_Pc [.ref (ad 60), .int p1] (gB l gFull D cy ad base μ)) (gQ (some (.int RES)) gFull D cy ad base μ) 0 0 (gA base) := by
  refine Met.ofW (cc := cX8_second) (maxL := 2) (ret := (some .int)) (by decide) rfl ?_
  intro p e s m args below meth c s₁ B hml0 hv
  obtain ⟨rfl, E, hM⟩ := hv
  have F : gF p s m meth c cX8_second RX8 2 (some .int) := gF_of B hml0
  obtain ⟨hx, hb, hml, hown, hlocks, hr⟩ := id F
  have hS : va_S (gA base) s.heap s.heap [] := va_S.rf
  have hl := lv_entry ([.ref (ad 60), .int p1]) (n := 2) (Nat.le_of_ble_eq_true rfl)
  rw [lg_entry_eq]
  generalize (lg_sl ([.ref (ad 60), .int p1]) ++ List.replicate (2 - (lg_sl ([.ref (ad 60), .int p1])).length) Slot.unset).toArray = ls at hl ⊢
  have hl : lv_has ls 2 [(0, .ref (ad 60)), (1, .int p1)] := hl
  unfold f_X8_second at h
  refine lv_aload_n hx hb dX8_second_0 rfl (lv_at hl 0 rfl) ?_
  refine gg_60_7 hx hb hown E hM hk_60 kw_1249 dX8_second_1 ?_
  refine lv_bipush (v := (24 : Int32)) hx hb dX8_second_4 (by decide) ?_
  refine lv_iload_n hx hb dX8_second_6 rfl (lv_at hl 1 rfl) ?_
  refine lv_iadd hx hb dX8_second_7 ?_
  obtain ⟨c1, h⟩ := gchk_e h
  refine g_iald hx hb E hM hk_66 dd_66 c1 dX8_second_8 ?_
  obtain rfl := Option.some.inj h
  exact g_iret hx hb hr hlocks hM hS dX8_second_9
def f_X8_isActive (p1 : Int32) (μ : gM) : Option (Bool) :=
  gchk (gIn ((22 : Int32) + p1) 703) (if ((gi μ 61 ((22 : Int32) + p1).toNatClampNeg) = (1 : Int32)) then some true else some false)
set_option maxHeartbeats 4000000 in
set_option maxRecDepth 100000 in
theorem c_X8_isActive {l : Launch} {D : va_G} {cy : Nat → ClassId} {ad : Nat → Nat} {base : Nat} {p1 : Int32} {μ : gM} {RES : Bool} (h : f_X8_isActive p1 μ = some RES) : Met l yX8_isActive [.code yX8_isActive cX8_isActive 2 (some .boolean)] ({ frames := 0, cells := 0, slots := 0, locals := 0 } : Room) (va_Pc [.ref (ad 60), .int p1] (gB l gFull D cy ad base μ)) (gQ (some (.int (b2i RES))) gFull D cy ad base μ) 0 0 (gA base) := by
  refine Met.ofW (cc := cX8_isActive) (maxL := 2) (ret := (some .boolean)) (by decide) rfl ?_
  intro p e s m args below meth c s₁ B hml0 hv
  obtain ⟨rfl, E, hM⟩ := hv
  have F : gF p s m meth c cX8_isActive RX8 2 (some .boolean) := gF_of B hml0
  obtain ⟨hx, hb, hml, hown, hlocks, hr⟩ := id F
  have hS : va_S (gA base) s.heap s.heap [] := va_S.rf
  have hl := lv_entry ([.ref (ad 60), .int p1]) (n := 2) (Nat.le_of_ble_eq_true rfl)
  rw [lg_entry_eq]
  generalize (lg_sl ([.ref (ad 60), .int p1]) ++ List.replicate (2 - (lg_sl ([.ref (ad 60), .int p1])).length) Slot.unset).toArray = ls at hl ⊢
  have hl : lv_has ls 2 [(0, .ref (ad 60)), (1, .int p1)] := hl
  unfold f_X8_isActive at h
  refine lv_aload_n hx hb dX8_isActive_0 rfl (lv_at hl 0 rfl) ?_
  refine gg_60_0 hx hb hown E hM hk_60 kw_1242 dX8_isActive_1 ?_
  refine lv_bipush (v := (22 : Int32)) hx hb dX8_isActive_4 (by decide) ?_
  refine lv_iload_n hx hb dX8_isActive_6 rfl (lv_at hl 1 rfl) ?_
  refine lv_iadd hx hb dX8_isActive_7 ?_
  obtain ⟨c1, h⟩ := gchk_e h
  refine g_iald hx hb E hM hk_61 dd_61 c1 dX8_isActive_8 ?_
  refine lv_iconst (v := (1 : Int32)) hx hb dX8_isActive_9 (by decide) ?_
  refine lv_icmp_ne (tgt := 17) hx hb dX8_isActive_10 (by decide) (fun c2 => ?_) (fun c2 => ?_)
  · replace h := gif_f c2 h
    refine lv_iconst (v := (0 : Int32)) hx hb dX8_isActive_17 (by decide) ?_
    obtain rfl := Option.some.inj h
    exact g_zret (v := b2i false) hx hb hr hlocks (b2i_nar false) hM hS dX8_isActive_18
  · replace h := gif_t c2 h
    refine lv_iconst (v := (1 : Int32)) hx hb dX8_isActive_13 (by decide) ?_
    refine lv_goto (tgt := 18) hx hb dX8_isActive_14 (by decide) ?_
    obtain rfl := Option.some.inj h
    exact g_zret (v := b2i true) hx hb hr hlocks (b2i_nar true) hM hS dX8_isActive_18
def f_X8_setups (p1 : Int32) (μ : gM) : Option (Int32) :=
  gchk (gIn ((42 : Int32) + p1) 703) (some (gi μ 61 ((42 : Int32) + p1).toNatClampNeg))
set_option maxHeartbeats 4000000 in
set_option maxRecDepth 100000 in
theorem c_X8_setups {l : Launch} {D : va_G} {cy : Nat → ClassId} {ad : Nat → Nat} {base : Nat} {p1 : Int32} {μ : gM} {RES : Int32} (h : f_X8_setups p1 μ = some RES) : Met l yX8_setups [.code yX8_setups cX8_setups 2 (some .int)] ({ frames := 0, cells := 0, slots := 0, locals := 0 } : Room) (va_Pc [.ref (ad 60), .int p1] (gB l gFull D cy ad base μ)) (gQ (some (.int RES)) gFull D cy ad base μ) 0 0 (gA base) := by
  refine Met.ofW (cc := cX8_setups) (maxL := 2) (ret := (some .int)) (by decide) rfl ?_
  intro p e s m args below meth c s₁ B hml0 hv
  obtain ⟨rfl, E, hM⟩ := hv
  have F : gF p s m meth c cX8_setups RX8 2 (some .int) := gF_of B hml0
  obtain ⟨hx, hb, hml, hown, hlocks, hr⟩ := id F
  have hS : va_S (gA base) s.heap s.heap [] := va_S.rf
  have hl := lv_entry ([.ref (ad 60), .int p1]) (n := 2) (Nat.le_of_ble_eq_true rfl)
  rw [lg_entry_eq]
  generalize (lg_sl ([.ref (ad 60), .int p1]) ++ List.replicate (2 - (lg_sl ([.ref (ad 60), .int p1])).length) Slot.unset).toArray = ls at hl ⊢
  have hl : lv_has ls 2 [(0, .ref (ad 60)), (1, .int p1)] := hl
  unfold f_X8_setups at h
  refine lv_aload_n hx hb dX8_setups_0 rfl (lv_at hl 0 rfl) ?_
  refine gg_60_0 hx hb hown E hM hk_60 kw_1242 dX8_setups_1 ?_
  refine lv_bipush (v := (42 : Int32)) hx hb dX8_setups_4 (by decide) ?_
  refine lv_iload_n hx hb dX8_setups_6 rfl (lv_at hl 1 rfl) ?_
  refine lv_iadd hx hb dX8_setups_7 ?_
  obtain ⟨c1, h⟩ := gchk_e h
  refine g_iald hx hb E hM hk_61 dd_61 c1 dX8_setups_8 ?_
  obtain rfl := Option.some.inj h
  exact g_iret hx hb hr hlocks hM hS dX8_setups_9
def f_X8_of (p1 : Int32) (p2 : Int32) (p3 : Int32) (μ : gM) : Option (Int32) :=
  Option.bind (f_X8_setupAt p1 p2 p3 μ) (fun q1 => gchk (gIn q1 703) (some (gi μ 61 q1.toNatClampNeg)))
set_option maxHeartbeats 4000000 in
set_option maxRecDepth 100000 in
theorem c_X8_of {l : Launch} {D : va_G} {cy : Nat → ClassId} {ad : Nat → Nat} {base : Nat} {p1 : Int32} {p2 : Int32} {p3 : Int32} {μ : gM} {RES : Int32} (h : f_X8_of p1 p2 p3 μ = some RES) : Met l yX8_of [.code yX8_of cX8_of 4 (some .int)] ({ frames := 1, cells := 0, slots := 0, locals := 22 } : Room) (va_Pc [.ref (ad 60), .int p1, .int p2, .int p3] (gB l gFull D cy ad base μ)) (gQ (some (.int RES)) gFull D cy ad base μ) 0 0 (gA base) := by
  refine Met.ofW (cc := cX8_of) (maxL := 4) (ret := (some .int)) (by decide) rfl ?_
  intro p e s m args below meth c s₁ B hml0 hv
  obtain ⟨rfl, E, hM⟩ := hv
  have F : gF p s m meth c cX8_of RX8 4 (some .int) := gF_of B hml0
  obtain ⟨hx, hb, hml, hown, hlocks, hr⟩ := id F
  have hS : va_S (gA base) s.heap s.heap [] := va_S.rf
  have hl := lv_entry ([.ref (ad 60), .int p1, .int p2, .int p3]) (n := 4) (Nat.le_of_ble_eq_true rfl)
  rw [lg_entry_eq]
  generalize (lg_sl ([.ref (ad 60), .int p1, .int p2, .int p3]) ++ List.replicate (4 - (lg_sl ([.ref (ad 60), .int p1, .int p2, .int p3])).length) Slot.unset).toArray = ls at hl ⊢
  have hl : lv_has ls 4 [(0, .ref (ad 60)), (1, .int p1), (2, .int p2), (3, .int p3)] := hl
  unfold f_X8_of at h
  refine lv_aload_n hx hb dX8_of_0 rfl (lv_at hl 0 rfl) ?_
  refine gg_60_0 hx hb hown E hM hk_60 kw_1242 dX8_of_1 ?_
  refine lv_iload_n hx hb dX8_of_4 rfl (lv_at hl 1 rfl) ?_
  refine lv_iload_n hx hb dX8_of_5 rfl (lv_at hl 2 rfl) ?_
  refine lv_iload_n hx hb dX8_of_6 rfl (lv_at hl 3 rfl) ?_
  obtain ⟨q1, hq1, h⟩ := gbind_e h
  refine g_callS (As := [.int p1, .int p2, .int p3]) (rest := [.ref (ad 61)]) hx hb (hml.trans hl.1.symm) hown E hM hS hy_X8_setupAt kw_1464 (c_X8_setupAt hq1) rfl rfl (Nat.le_of_ble_eq_true rfl) ⟨Nat.le_of_ble_eq_true rfl, Nat.le_of_ble_eq_true rfl⟩ ⟨Nat.le_of_ble_eq_true rfl, Nat.le_of_ble_eq_true rfl⟩ dX8_of_7 (fun H locs hM hS => ?_)
  obtain ⟨c2, h⟩ := gchk_e h
  refine g_iald hx hb E hM hk_61 dd_61 c2 dX8_of_10 ?_
  obtain rfl := Option.some.inj h
  exact g_iret hx hb hr hlocks hM hS dX8_of_11
def b_X8_sum_5 (x1 : Int32) (x2 : Int32) (x3 : Int32) (x4 : Int32) (μ : gM) : Option ((Int32 × Int32) ⊕ (Int32)) :=
  Option.bind (f_X8_setups x1 μ) (fun q1 => if (q1 ≤ x4) then some (.inr x3) else Option.bind (f_X8_of x1 x4 x2 μ) (fun q3 => some (.inl ((x3 + q3), (x4 + (1 : Int32))))))
set_option maxHeartbeats 4000000 in
set_option maxRecDepth 100000 in
theorem wb_X8_sum_5 {p : Program} {l : Launch} {e : Env} {s : State} {m : MethodId} {args : Array Value} {below : List Frame} {meth : Method} {c : Code} {D : va_G} {cy : Nat → ClassId} {ad : Nat → Nat} {base : Nat} {x1 : Int32} {x2 : Int32} {x3 : Int32} {x4 : Int32} {μ : gM} {o : (Int32 × Int32) ⊕ (Int32)} {RES : Int32} (h : b_X8_sum_5 x1 x2 x3 x4 μ = some o) (F : gF p s m meth c cX8_sum RX8 5 (some .int)) (E : gEnv l D cy ad base s) (kc : ∀ (t : Int32 × Int32) {H : Heap} {locs : List Loc} {ls : Array Slot}, o = .inl t → gW gFull D cy ad base μ H → va_S (gA base) s.heap H locs → lv_has ls 5 [(0, .ref (ad 60)), (1, .int x1), (2, .int x2), (3, .int t.1), (4, .int t.2)] → W p l e ({ frames := 2, cells := 0, slots := 0, locals := 45 } : Room) s m args below meth c H locs 0 0 (MQ below (gQ (some (.int RES)) gFull D cy ad base μ) args s 0 0 (gA base)) (F0 m 5 ls [])) (kx : ∀ (t : Int32) {H : Heap} {locs : List Loc} {ls : Array Slot}, o = .inr t → gW gFull D cy ad base μ H → va_S (gA base) s.heap H locs → lv_has ls 5 [(3, .int t)] → W p l e ({ frames := 2, cells := 0, slots := 0, locals := 45 } : Room) s m args below meth c H locs 0 0 (MQ below (gQ (some (.int RES)) gFull D cy ad base μ) args s 0 0 (gA base)) (F0 m 32 ls []))  {H : Heap} {locs : List Loc} {ls : Array Slot} (hM : gW gFull D cy ad base μ H) (hS : va_S (gA base) s.heap H locs) (hl : lv_has ls 5 [(0, .ref (ad 60)), (1, .int x1), (2, .int x2), (3, .int x3), (4, .int x4)]) : W p l e ({ frames := 2, cells := 0, slots := 0, locals := 45 } : Room) s m args below meth c H locs 0 0 (MQ below (gQ (some (.int RES)) gFull D cy ad base μ) args s 0 0 (gA base)) (F0 m 5 ls []) := by
  obtain ⟨hx, hb, hml, hown, hlocks, hr⟩ := id F
  unfold b_X8_sum_5 at h
  refine lv_iload hx hb dX8_sum_5 (lv_at hl 4 rfl) ?_
  refine lv_aload_n hx hb dX8_sum_7 rfl (lv_at hl 0 rfl) ?_
  refine lv_iload_n hx hb dX8_sum_8 rfl (lv_at hl 1 rfl) ?_
  obtain ⟨q1, hq1, h⟩ := gbind_e h
  refine g_callV (As := [.int x1]) (rest := [.int x4]) hx hb (hml.trans hl.1.symm) hown E hM hS hy_X8_setups kw_1583 (c_X8_setups hq1) hk_60 dd_60 rfl rfl rfl (Nat.le_of_ble_eq_true rfl) ⟨Nat.le_of_ble_eq_true rfl, Nat.le_of_ble_eq_true rfl⟩ ⟨Nat.le_of_ble_eq_true rfl, Nat.le_of_ble_eq_true rfl⟩ dX8_sum_9 (fun H locs hM hS => ?_)
  refine lv_icmp_ge (tgt := 32) hx hb dX8_sum_12 (by decide) (fun c2 => ?_) (fun c2 => ?_)
  · replace h := gif_t c2 h
    exact kx _ (Option.some.inj h).symm hM hS (lv_sub hl [3] rfl)
  · replace h := gif_f c2 h
    refine lv_iload_n hx hb dX8_sum_15 rfl (lv_at hl 3 rfl) ?_
    refine lv_aload_n hx hb dX8_sum_16 rfl (lv_at hl 0 rfl) ?_
    refine lv_iload_n hx hb dX8_sum_17 rfl (lv_at hl 1 rfl) ?_
    refine lv_iload hx hb dX8_sum_18 (lv_at hl 4 rfl) ?_
    refine lv_iload_n hx hb dX8_sum_20 rfl (lv_at hl 2 rfl) ?_
    obtain ⟨q3, hq3, h⟩ := gbind_e h
    refine g_callV (As := [.int x1, .int x4, .int x2]) (rest := [.int x3]) hx hb (hml.trans hl.1.symm) hown E hM hS hy_X8_of kw_1595 (c_X8_of hq3) hk_60 dd_60 rfl rfl rfl (Nat.le_of_ble_eq_true rfl) ⟨Nat.le_of_ble_eq_true rfl, Nat.le_of_ble_eq_true rfl⟩ ⟨Nat.le_of_ble_eq_true rfl, Nat.le_of_ble_eq_true rfl⟩ dX8_sum_21 (fun H locs hM hS => ?_)
    refine lv_iadd hx hb dX8_sum_24 ?_
    refine lv_istore_n (lv' := [(3, .int (x3 + q3)), (0, .ref (ad 60)), (1, .int x1), (2, .int x2), (4, .int x4)]) hx hb dX8_sum_25 rfl hl (by decide) rfl (fun ls hl => ?_)
    refine lv_iinc (v := (x4 + (1 : Int32))) (lv' := [(4, .int (x4 + (1 : Int32))), (3, .int (x3 + q3)), (0, .ref (ad 60)), (1, .int x1), (2, .int x2)]) hx hb dX8_sum_26 hl (k := 4) rfl rfl (by decide) rfl (fun ls hl => ?_)
    refine lv_goto (tgt := 5) hx hb dX8_sum_29 (by decide) ?_
    exact kc _ (Option.some.inj h).symm hM hS (lv_sub hl [2, 3, 4, 1, 0] rfl)
set_option maxHeartbeats 4000000 in
theorem wl_X8_sum_5 {p : Program} {l : Launch} {e : Env} {s : State} {m : MethodId} {args : Array Value} {below : List Frame} {meth : Method} {c : Code} {D : va_G} {cy : Nat → ClassId} {ad : Nat → Nat} {base : Nat} {x1 : Int32} {x2 : Int32} {μ : gM} {r : Int32} {RES : Int32} (F : gF p s m meth c cX8_sum RX8 5 (some .int)) (E : gEnv l D cy ad base s) (kx : ∀ (t : Int32) {H : Heap} {locs : List Loc} {ls : Array Slot}, r = t → gW gFull D cy ad base μ H → va_S (gA base) s.heap H locs → lv_has ls 5 [(3, .int t)] → W p l e ({ frames := 2, cells := 0, slots := 0, locals := 45 } : Room) s m args below meth c H locs 0 0 (MQ below (gQ (some (.int RES)) gFull D cy ad base μ) args s 0 0 (gA base)) (F0 m 32 ls []))  : ∀ (n : Nat) (x3 : Int32) (x4 : Int32), gloop (fun t => b_X8_sum_5 x1 x2 t.1 t.2 μ) n (x3, x4) = some r → ∀ {H : Heap} {locs : List Loc} {ls : Array Slot}, gW gFull D cy ad base μ H → va_S (gA base) s.heap H locs → lv_has ls 5 [(0, .ref (ad 60)), (1, .int x1), (2, .int x2), (3, .int x3), (4, .int x4)] → W p l e ({ frames := 2, cells := 0, slots := 0, locals := 45 } : Room) s m args below meth c H locs 0 0 (MQ below (gQ (some (.int RES)) gFull D cy ad base μ) args s 0 0 (gA base)) (F0 m 5 ls []) := by
  intro n
  induction n with
  | zero =>
    intro x3 x4 h
    exact (gloop_0 h).elim
  | succ n ih =>
    intro x3 x4 h H locs ls hM hS hl
    obtain ⟨o, h0, hc, hq⟩ := gloop_s h
    have h1 : b_X8_sum_5 x1 x2 x3 x4 μ = some o := h0
    exact wb_X8_sum_5 h1 F E (fun t H locs ls ho hM hS hl => ih t.1 t.2 (hc t ho) hM hS hl) (fun t H locs ls ho hM hS hl => kx t (hq _ ho).symm hM hS hl) hM hS hl
def f_X8_sum (p1 : Int32) (p2 : Int32) (μ : gM) : Option (Int32) :=
  Option.bind (gloop (fun t => b_X8_sum_5 p1 p2 t.1 t.2 μ) gFuel ((0 : Int32), (0 : Int32))) (fun q4 => some q4)
set_option maxHeartbeats 4000000 in
set_option maxRecDepth 100000 in
theorem c_X8_sum {l : Launch} {D : va_G} {cy : Nat → ClassId} {ad : Nat → Nat} {base : Nat} {p1 : Int32} {p2 : Int32} {μ : gM} {RES : Int32} (h : f_X8_sum p1 p2 μ = some RES) : Met l yX8_sum [.code yX8_sum cX8_sum 5 (some .int)] ({ frames := 2, cells := 0, slots := 0, locals := 45 } : Room) (va_Pc [.ref (ad 60), .int p1, .int p2] (gB l gFull D cy ad base μ)) (gQ (some (.int RES)) gFull D cy ad base μ) 0 0 (gA base) := by
  refine Met.ofW (cc := cX8_sum) (maxL := 5) (ret := (some .int)) (by decide) rfl ?_
  intro p e s m args below meth c s₁ B hml0 hv
  obtain ⟨rfl, E, hM⟩ := hv
  have F : gF p s m meth c cX8_sum RX8 5 (some .int) := gF_of B hml0
  obtain ⟨hx, hb, hml, hown, hlocks, hr⟩ := id F
  have hS : va_S (gA base) s.heap s.heap [] := va_S.rf
  have hl := lv_entry ([.ref (ad 60), .int p1, .int p2]) (n := 5) (Nat.le_of_ble_eq_true rfl)
  rw [lg_entry_eq]
  generalize (lg_sl ([.ref (ad 60), .int p1, .int p2]) ++ List.replicate (5 - (lg_sl ([.ref (ad 60), .int p1, .int p2])).length) Slot.unset).toArray = ls at hl ⊢
  have hl : lv_has ls 5 [(0, .ref (ad 60)), (1, .int p1), (2, .int p2)] := hl
  unfold f_X8_sum at h
  refine lv_iconst (v := (0 : Int32)) hx hb dX8_sum_0 (by decide) ?_
  refine lv_istore_n (lv' := [(3, .int (0 : Int32)), (0, .ref (ad 60)), (1, .int p1), (2, .int p2)]) hx hb dX8_sum_1 rfl hl (by decide) rfl (fun ls hl => ?_)
  refine lv_iconst (v := (0 : Int32)) hx hb dX8_sum_2 (by decide) ?_
  refine lv_istore (lv' := [(4, .int (0 : Int32)), (3, .int (0 : Int32)), (0, .ref (ad 60)), (1, .int p1), (2, .int p2)]) hx hb dX8_sum_3 hl (by decide) rfl (fun ls hl => ?_)
  obtain ⟨z5, h1, h⟩ := gbind_e h
  refine wl_X8_sum_5 F E (r := z5) (fun q4 H locs ls e1 hM hS hl => ?_) gFuel (0 : Int32) (0 : Int32) h1 hM hS (lv_sub hl [2, 3, 4, 1, 0] rfl)
  replace e1 : z5 = q4 := e1
  rw [e1] at h
  refine lv_iload_n hx hb dX8_sum_32 rfl (lv_at hl 0 rfl) ?_
  obtain rfl := Option.some.inj h
  exact g_iret hx hb hr hlocks hM hS dX8_sum_33
def f_X8_length (p1 : Int32) (μ : gM) : Option (Int32) :=
  Option.bind (f_X8_sum p1 (2 : Int32) μ) (fun q1 => Option.bind (f_X8_sum p1 (3 : Int32) μ) (fun q2 => some (q1 + q2)))
set_option maxHeartbeats 4000000 in
set_option maxRecDepth 100000 in
theorem c_X8_length {l : Launch} {D : va_G} {cy : Nat → ClassId} {ad : Nat → Nat} {base : Nat} {p1 : Int32} {μ : gM} {RES : Int32} (h : f_X8_length p1 μ = some RES) : Met l yX8_length [.code yX8_length cX8_length 2 (some .int)] ({ frames := 3, cells := 0, slots := 0, locals := 69 } : Room) (va_Pc [.ref (ad 60), .int p1] (gB l gFull D cy ad base μ)) (gQ (some (.int RES)) gFull D cy ad base μ) 0 0 (gA base) := by
  refine Met.ofW (cc := cX8_length) (maxL := 2) (ret := (some .int)) (by decide) rfl ?_
  intro p e s m args below meth c s₁ B hml0 hv
  obtain ⟨rfl, E, hM⟩ := hv
  have F : gF p s m meth c cX8_length RX8 2 (some .int) := gF_of B hml0
  obtain ⟨hx, hb, hml, hown, hlocks, hr⟩ := id F
  have hS : va_S (gA base) s.heap s.heap [] := va_S.rf
  have hl := lv_entry ([.ref (ad 60), .int p1]) (n := 2) (Nat.le_of_ble_eq_true rfl)
  rw [lg_entry_eq]
  generalize (lg_sl ([.ref (ad 60), .int p1]) ++ List.replicate (2 - (lg_sl ([.ref (ad 60), .int p1])).length) Slot.unset).toArray = ls at hl ⊢
  have hl : lv_has ls 2 [(0, .ref (ad 60)), (1, .int p1)] := hl
  unfold f_X8_length at h
  refine lv_aload_n hx hb dX8_length_0 rfl (lv_at hl 0 rfl) ?_
  refine lv_iload_n hx hb dX8_length_1 rfl (lv_at hl 1 rfl) ?_
  refine lv_iconst (v := (2 : Int32)) hx hb dX8_length_2 (by decide) ?_
  obtain ⟨q1, hq1, h⟩ := gbind_e h
  refine g_callV (As := [.int p1, .int (2 : Int32)]) (rest := []) hx hb (hml.trans hl.1.symm) hown E hM hS hy_X8_sum kw_1591 (c_X8_sum hq1) hk_60 dd_60 rfl rfl rfl (Nat.le_of_ble_eq_true rfl) ⟨Nat.le_of_ble_eq_true rfl, Nat.le_of_ble_eq_true rfl⟩ ⟨Nat.le_of_ble_eq_true rfl, Nat.le_of_ble_eq_true rfl⟩ dX8_length_3 (fun H locs hM hS => ?_)
  refine lv_aload_n hx hb dX8_length_6 rfl (lv_at hl 0 rfl) ?_
  refine lv_iload_n hx hb dX8_length_7 rfl (lv_at hl 1 rfl) ?_
  refine lv_iconst (v := (3 : Int32)) hx hb dX8_length_8 (by decide) ?_
  obtain ⟨q2, hq2, h⟩ := gbind_e h
  refine g_callV (As := [.int p1, .int (3 : Int32)]) (rest := [.int q1]) hx hb (hml.trans hl.1.symm) hown E hM hS hy_X8_sum kw_1591 (c_X8_sum hq2) hk_60 dd_60 rfl rfl rfl (Nat.le_of_ble_eq_true rfl) ⟨Nat.le_of_ble_eq_true rfl, Nat.le_of_ble_eq_true rfl⟩ ⟨Nat.le_of_ble_eq_true rfl, Nat.le_of_ble_eq_true rfl⟩ dX8_length_9 (fun H locs hM hS => ?_)
  refine lv_iadd hx hb dX8_length_12 ?_
  obtain rfl := Option.some.inj h
  exact g_iret hx hb hr hlocks hM hS dX8_length_13
def f_X8_weight (p1 : Int32) (μ : gM) : Option (Int32) :=
  Option.bind (f_X8_length p1 μ) (fun q1 => gchk (¬ q1 = 0) (some ((1000000 : Int32) / q1)))
set_option maxHeartbeats 4000000 in
set_option maxRecDepth 100000 in
theorem c_X8_weight {l : Launch} {D : va_G} {cy : Nat → ClassId} {ad : Nat → Nat} {base : Nat} {p1 : Int32} {μ : gM} {RES : Int32} (h : f_X8_weight p1 μ = some RES) : Met l yX8_weight [.code yX8_weight cX8_weight 2 (some .int)] ({ frames := 4, cells := 0, slots := 0, locals := 90 } : Room) (va_Pc [.ref (ad 60), .int p1] (gB l gFull D cy ad base μ)) (gQ (some (.int RES)) gFull D cy ad base μ) 0 0 (gA base) := by
  refine Met.ofW (cc := cX8_weight) (maxL := 2) (ret := (some .int)) (by decide) rfl ?_
  intro p e s m args below meth c s₁ B hml0 hv
  obtain ⟨rfl, E, hM⟩ := hv
  have F : gF p s m meth c cX8_weight RX8 2 (some .int) := gF_of B hml0
  obtain ⟨hx, hb, hml, hown, hlocks, hr⟩ := id F
  have hS : va_S (gA base) s.heap s.heap [] := va_S.rf
  have hl := lv_entry ([.ref (ad 60), .int p1]) (n := 2) (Nat.le_of_ble_eq_true rfl)
  rw [lg_entry_eq]
  generalize (lg_sl ([.ref (ad 60), .int p1]) ++ List.replicate (2 - (lg_sl ([.ref (ad 60), .int p1])).length) Slot.unset).toArray = ls at hl ⊢
  have hl : lv_has ls 2 [(0, .ref (ad 60)), (1, .int p1)] := hl
  unfold f_X8_weight at h
  refine lv_ldcw hx hb hown (v := (1000000 : Int32)) (E.kw kw_1603) dX8_weight_0 ?_
  refine lv_aload_n hx hb dX8_weight_3 rfl (lv_at hl 0 rfl) ?_
  refine lv_iload_n hx hb dX8_weight_4 rfl (lv_at hl 1 rfl) ?_
  obtain ⟨q1, hq1, h⟩ := gbind_e h
  refine g_callV (As := [.int p1]) (rest := [.int (1000000 : Int32)]) hx hb (hml.trans hl.1.symm) hown E hM hS hy_X8_length kw_1587 (c_X8_length hq1) hk_60 dd_60 rfl rfl rfl (Nat.le_of_ble_eq_true rfl) ⟨Nat.le_of_ble_eq_true rfl, Nat.le_of_ble_eq_true rfl⟩ ⟨Nat.le_of_ble_eq_true rfl, Nat.le_of_ble_eq_true rfl⟩ dX8_weight_5 (fun H locs hM hS => ?_)
  obtain ⟨c2, h⟩ := gchk_e h
  refine lv_idiv hx hb dX8_weight_8 c2 ?_
  obtain rfl := Option.some.inj h
  exact g_iret hx hb hr hlocks hM hS dX8_weight_9
def f_X8_balance (p1 : Int32) (μ : gM) : Option (Int32) :=
  Option.bind (f_X8_sum p1 (2 : Int32) μ) (fun q1 => Option.bind (f_X8_sum p1 (3 : Int32) μ) (fun q2 => some (q1 - q2)))
set_option maxHeartbeats 4000000 in
set_option maxRecDepth 100000 in
theorem c_X8_balance {l : Launch} {D : va_G} {cy : Nat → ClassId} {ad : Nat → Nat} {base : Nat} {p1 : Int32} {μ : gM} {RES : Int32} (h : f_X8_balance p1 μ = some RES) : Met l yX8_balance [.code yX8_balance cX8_balance 2 (some .int)] ({ frames := 3, cells := 0, slots := 0, locals := 69 } : Room) (va_Pc [.ref (ad 60), .int p1] (gB l gFull D cy ad base μ)) (gQ (some (.int RES)) gFull D cy ad base μ) 0 0 (gA base) := by
  refine Met.ofW (cc := cX8_balance) (maxL := 2) (ret := (some .int)) (by decide) rfl ?_
  intro p e s m args below meth c s₁ B hml0 hv
  obtain ⟨rfl, E, hM⟩ := hv
  have F : gF p s m meth c cX8_balance RX8 2 (some .int) := gF_of B hml0
  obtain ⟨hx, hb, hml, hown, hlocks, hr⟩ := id F
  have hS : va_S (gA base) s.heap s.heap [] := va_S.rf
  have hl := lv_entry ([.ref (ad 60), .int p1]) (n := 2) (Nat.le_of_ble_eq_true rfl)
  rw [lg_entry_eq]
  generalize (lg_sl ([.ref (ad 60), .int p1]) ++ List.replicate (2 - (lg_sl ([.ref (ad 60), .int p1])).length) Slot.unset).toArray = ls at hl ⊢
  have hl : lv_has ls 2 [(0, .ref (ad 60)), (1, .int p1)] := hl
  unfold f_X8_balance at h
  refine lv_aload_n hx hb dX8_balance_0 rfl (lv_at hl 0 rfl) ?_
  refine lv_iload_n hx hb dX8_balance_1 rfl (lv_at hl 1 rfl) ?_
  refine lv_iconst (v := (2 : Int32)) hx hb dX8_balance_2 (by decide) ?_
  obtain ⟨q1, hq1, h⟩ := gbind_e h
  refine g_callV (As := [.int p1, .int (2 : Int32)]) (rest := []) hx hb (hml.trans hl.1.symm) hown E hM hS hy_X8_sum kw_1591 (c_X8_sum hq1) hk_60 dd_60 rfl rfl rfl (Nat.le_of_ble_eq_true rfl) ⟨Nat.le_of_ble_eq_true rfl, Nat.le_of_ble_eq_true rfl⟩ ⟨Nat.le_of_ble_eq_true rfl, Nat.le_of_ble_eq_true rfl⟩ dX8_balance_3 (fun H locs hM hS => ?_)
  refine lv_aload_n hx hb dX8_balance_6 rfl (lv_at hl 0 rfl) ?_
  refine lv_iload_n hx hb dX8_balance_7 rfl (lv_at hl 1 rfl) ?_
  refine lv_iconst (v := (3 : Int32)) hx hb dX8_balance_8 (by decide) ?_
  obtain ⟨q2, hq2, h⟩ := gbind_e h
  refine g_callV (As := [.int p1, .int (3 : Int32)]) (rest := [.int q1]) hx hb (hml.trans hl.1.symm) hown E hM hS hy_X8_sum kw_1591 (c_X8_sum hq2) hk_60 dd_60 rfl rfl rfl (Nat.le_of_ble_eq_true rfl) ⟨Nat.le_of_ble_eq_true rfl, Nat.le_of_ble_eq_true rfl⟩ ⟨Nat.le_of_ble_eq_true rfl, Nat.le_of_ble_eq_true rfl⟩ dX8_balance_9 (fun H locs hM hS => ?_)
  refine lv_isub hx hb dX8_balance_12 ?_
  obtain rfl := Option.some.inj h
  exact g_iret hx hb hr hlocks hM hS dX8_balance_13
def f_X8_lineCollimation (p1 : Int32) (μ : gM) : Option (Int32) :=
  gchk (gIn ((44 : Int32) + p1) 137) (gchk (gIn ((3 : Int32) + (gi μ 66 ((44 : Int32) + p1).toNatClampNeg)) 703) (some (gi μ 61 ((3 : Int32) + (gi μ 66 ((44 : Int32) + p1).toNatClampNeg)).toNatClampNeg)))
set_option maxHeartbeats 4000000 in
set_option maxRecDepth 100000 in
theorem c_X8_lineCollimation {l : Launch} {D : va_G} {cy : Nat → ClassId} {ad : Nat → Nat} {base : Nat} {p1 : Int32} {μ : gM} {RES : Int32} (h : f_X8_lineCollimation p1 μ = some RES) : Met l yX8_lineCollimation [.code yX8_lineCollimation cX8_lineCollimation 2 (some .int)] ({ frames := 0, cells := 0, slots := 0, locals := 0 } : Room) (va_Pc [.ref (ad 60), .int p1] (gB l gFull D cy ad base μ)) (gQ (some (.int RES)) gFull D cy ad base μ) 0 0 (gA base) := by
  refine Met.ofW (cc := cX8_lineCollimation) (maxL := 2) (ret := (some .int)) (by decide) rfl ?_
  intro p e s m args below meth c s₁ B hml0 hv
  obtain ⟨rfl, E, hM⟩ := hv
  have F : gF p s m meth c cX8_lineCollimation RX8 2 (some .int) := gF_of B hml0
  obtain ⟨hx, hb, hml, hown, hlocks, hr⟩ := id F
  have hS : va_S (gA base) s.heap s.heap [] := va_S.rf
  have hl := lv_entry ([.ref (ad 60), .int p1]) (n := 2) (Nat.le_of_ble_eq_true rfl)
  rw [lg_entry_eq]
  generalize (lg_sl ([.ref (ad 60), .int p1]) ++ List.replicate (2 - (lg_sl ([.ref (ad 60), .int p1])).length) Slot.unset).toArray = ls at hl ⊢
  have hl : lv_has ls 2 [(0, .ref (ad 60)), (1, .int p1)] := hl
  unfold f_X8_lineCollimation at h
  refine lv_aload_n hx hb dX8_lineCollimation_0 rfl (lv_at hl 0 rfl) ?_
  refine gg_60_0 hx hb hown E hM hk_60 kw_1242 dX8_lineCollimation_1 ?_
  refine lv_iconst (v := (3 : Int32)) hx hb dX8_lineCollimation_4 (by decide) ?_
  refine lv_aload_n hx hb dX8_lineCollimation_5 rfl (lv_at hl 0 rfl) ?_
  refine gg_60_7 hx hb hown E hM hk_60 kw_1249 dX8_lineCollimation_6 ?_
  refine lv_bipush (v := (44 : Int32)) hx hb dX8_lineCollimation_9 (by decide) ?_
  refine lv_iload_n hx hb dX8_lineCollimation_11 rfl (lv_at hl 1 rfl) ?_
  refine lv_iadd hx hb dX8_lineCollimation_12 ?_
  obtain ⟨c1, h⟩ := gchk_e h
  refine g_iald hx hb E hM hk_66 dd_66 c1 dX8_lineCollimation_13 ?_
  refine lv_iadd hx hb dX8_lineCollimation_14 ?_
  obtain ⟨c2, h⟩ := gchk_e h
  refine g_iald hx hb E hM hk_61 dd_61 c2 dX8_lineCollimation_15 ?_
  obtain rfl := Option.some.inj h
  exact g_iret hx hb hr hlocks hM hS dX8_lineCollimation_16
def f_X8_step (p1 : Int32) (p2 : Int32) (μ : gM) : Option (Int32) :=
  Option.bind (f_X8_of p1 p2 (0 : Int32) μ) (fun q1 => Option.bind (f_X8_of p1 p2 (1 : Int32) μ) (fun q2 => Option.bind (f_X8_lineCollimation p1 μ) (fun q3 => Option.bind (f_X8_of p1 p2 (2 : Int32) μ) (fun q4 => Option.bind (f_X8_of p1 p2 (3 : Int32) μ) (fun q5 => some (((100 : Int32) * (q1 - q2)) - (q3 * (q4 - q5))))))))
set_option maxHeartbeats 4000000 in
set_option maxRecDepth 100000 in
theorem c_X8_step {l : Launch} {D : va_G} {cy : Nat → ClassId} {ad : Nat → Nat} {base : Nat} {p1 : Int32} {p2 : Int32} {μ : gM} {RES : Int32} (h : f_X8_step p1 p2 μ = some RES) : Met l yX8_step [.code yX8_step cX8_step 3 (some .int)] ({ frames := 2, cells := 0, slots := 0, locals := 45 } : Room) (va_Pc [.ref (ad 60), .int p1, .int p2] (gB l gFull D cy ad base μ)) (gQ (some (.int RES)) gFull D cy ad base μ) 0 0 (gA base) := by
  refine Met.ofW (cc := cX8_step) (maxL := 3) (ret := (some .int)) (by decide) rfl ?_
  intro p e s m args below meth c s₁ B hml0 hv
  obtain ⟨rfl, E, hM⟩ := hv
  have F : gF p s m meth c cX8_step RX8 3 (some .int) := gF_of B hml0
  obtain ⟨hx, hb, hml, hown, hlocks, hr⟩ := id F
  have hS : va_S (gA base) s.heap s.heap [] := va_S.rf
  have hl := lv_entry ([.ref (ad 60), .int p1, .int p2]) (n := 3) (Nat.le_of_ble_eq_true rfl)
  rw [lg_entry_eq]
  generalize (lg_sl ([.ref (ad 60), .int p1, .int p2]) ++ List.replicate (3 - (lg_sl ([.ref (ad 60), .int p1, .int p2])).length) Slot.unset).toArray = ls at hl ⊢
  have hl : lv_has ls 3 [(0, .ref (ad 60)), (1, .int p1), (2, .int p2)] := hl
  unfold f_X8_step at h
  refine lv_bipush (v := (100 : Int32)) hx hb dX8_step_0 (by decide) ?_
  refine lv_aload_n hx hb dX8_step_2 rfl (lv_at hl 0 rfl) ?_
  refine lv_iload_n hx hb dX8_step_3 rfl (lv_at hl 1 rfl) ?_
  refine lv_iload_n hx hb dX8_step_4 rfl (lv_at hl 2 rfl) ?_
  refine lv_iconst (v := (0 : Int32)) hx hb dX8_step_5 (by decide) ?_
  obtain ⟨q1, hq1, h⟩ := gbind_e h
  refine g_callV (As := [.int p1, .int p2, .int (0 : Int32)]) (rest := [.int (100 : Int32)]) hx hb (hml.trans hl.1.symm) hown E hM hS hy_X8_of kw_1595 (c_X8_of hq1) hk_60 dd_60 rfl rfl rfl (Nat.le_of_ble_eq_true rfl) ⟨Nat.le_of_ble_eq_true rfl, Nat.le_of_ble_eq_true rfl⟩ ⟨Nat.le_of_ble_eq_true rfl, Nat.le_of_ble_eq_true rfl⟩ dX8_step_6 (fun H locs hM hS => ?_)
  refine lv_aload_n hx hb dX8_step_9 rfl (lv_at hl 0 rfl) ?_
  refine lv_iload_n hx hb dX8_step_10 rfl (lv_at hl 1 rfl) ?_
  refine lv_iload_n hx hb dX8_step_11 rfl (lv_at hl 2 rfl) ?_
  refine lv_iconst (v := (1 : Int32)) hx hb dX8_step_12 (by decide) ?_
  obtain ⟨q2, hq2, h⟩ := gbind_e h
  refine g_callV (As := [.int p1, .int p2, .int (1 : Int32)]) (rest := [.int q1, .int (100 : Int32)]) hx hb (hml.trans hl.1.symm) hown E hM hS hy_X8_of kw_1595 (c_X8_of hq2) hk_60 dd_60 rfl rfl rfl (Nat.le_of_ble_eq_true rfl) ⟨Nat.le_of_ble_eq_true rfl, Nat.le_of_ble_eq_true rfl⟩ ⟨Nat.le_of_ble_eq_true rfl, Nat.le_of_ble_eq_true rfl⟩ dX8_step_13 (fun H locs hM hS => ?_)
  refine lv_isub hx hb dX8_step_16 ?_
  refine lv_imul hx hb dX8_step_17 ?_
  refine lv_aload_n hx hb dX8_step_18 rfl (lv_at hl 0 rfl) ?_
  refine lv_iload_n hx hb dX8_step_19 rfl (lv_at hl 1 rfl) ?_
  obtain ⟨q3, hq3, h⟩ := gbind_e h
  refine g_callV (As := [.int p1]) (rest := [.int ((100 : Int32) * (q1 - q2))]) hx hb (hml.trans hl.1.symm) hown E hM hS hy_X8_lineCollimation kw_1616 (c_X8_lineCollimation hq3) hk_60 dd_60 rfl rfl rfl (Nat.le_of_ble_eq_true rfl) ⟨Nat.le_of_ble_eq_true rfl, Nat.le_of_ble_eq_true rfl⟩ ⟨Nat.le_of_ble_eq_true rfl, Nat.le_of_ble_eq_true rfl⟩ dX8_step_20 (fun H locs hM hS => ?_)
  refine lv_aload_n hx hb dX8_step_23 rfl (lv_at hl 0 rfl) ?_
  refine lv_iload_n hx hb dX8_step_24 rfl (lv_at hl 1 rfl) ?_
  refine lv_iload_n hx hb dX8_step_25 rfl (lv_at hl 2 rfl) ?_
  refine lv_iconst (v := (2 : Int32)) hx hb dX8_step_26 (by decide) ?_
  obtain ⟨q4, hq4, h⟩ := gbind_e h
  refine g_callV (As := [.int p1, .int p2, .int (2 : Int32)]) (rest := [.int q3, .int ((100 : Int32) * (q1 - q2))]) hx hb (hml.trans hl.1.symm) hown E hM hS hy_X8_of kw_1595 (c_X8_of hq4) hk_60 dd_60 rfl rfl rfl (Nat.le_of_ble_eq_true rfl) ⟨Nat.le_of_ble_eq_true rfl, Nat.le_of_ble_eq_true rfl⟩ ⟨Nat.le_of_ble_eq_true rfl, Nat.le_of_ble_eq_true rfl⟩ dX8_step_27 (fun H locs hM hS => ?_)
  refine lv_aload_n hx hb dX8_step_30 rfl (lv_at hl 0 rfl) ?_
  refine lv_iload_n hx hb dX8_step_31 rfl (lv_at hl 1 rfl) ?_
  refine lv_iload_n hx hb dX8_step_32 rfl (lv_at hl 2 rfl) ?_
  refine lv_iconst (v := (3 : Int32)) hx hb dX8_step_33 (by decide) ?_
  obtain ⟨q5, hq5, h⟩ := gbind_e h
  refine g_callV (As := [.int p1, .int p2, .int (3 : Int32)]) (rest := [.int q4, .int q3, .int ((100 : Int32) * (q1 - q2))]) hx hb (hml.trans hl.1.symm) hown E hM hS hy_X8_of kw_1595 (c_X8_of hq5) hk_60 dd_60 rfl rfl rfl (Nat.le_of_ble_eq_true rfl) ⟨Nat.le_of_ble_eq_true rfl, Nat.le_of_ble_eq_true rfl⟩ ⟨Nat.le_of_ble_eq_true rfl, Nat.le_of_ble_eq_true rfl⟩ dX8_step_34 (fun H locs hM hS => ?_)
  refine lv_isub hx hb dX8_step_37 ?_
  refine lv_imul hx hb dX8_step_38 ?_
  refine lv_isub hx hb dX8_step_39 ?_
  obtain rfl := Option.some.inj h
  exact g_iret hx hb hr hlocks hM hS dX8_step_40
def b_X8_rise_4 (x1 : Int32) (x2 : Int32) (x3 : Int32) (μ : gM) : Option ((Int32 × Int32) ⊕ (Int32)) :=
  Option.bind (f_X8_setups x1 μ) (fun q1 => if (q1 ≤ x3) then some (.inr x2) else Option.bind (f_X8_step x1 x3 μ) (fun q3 => some (.inl ((x2 + q3), (x3 + (1 : Int32))))))
set_option maxHeartbeats 4000000 in
set_option maxRecDepth 100000 in
theorem wb_X8_rise_4 {p : Program} {l : Launch} {e : Env} {s : State} {m : MethodId} {args : Array Value} {below : List Frame} {meth : Method} {c : Code} {D : va_G} {cy : Nat → ClassId} {ad : Nat → Nat} {base : Nat} {x1 : Int32} {x2 : Int32} {x3 : Int32} {μ : gM} {o : (Int32 × Int32) ⊕ (Int32)} {RES : Int32} (h : b_X8_rise_4 x1 x2 x3 μ = some o) (F : gF p s m meth c cX8_rise RX8 4 (some .int)) (E : gEnv l D cy ad base s) (kc : ∀ (t : Int32 × Int32) {H : Heap} {locs : List Loc} {ls : Array Slot}, o = .inl t → gW gFull D cy ad base μ H → va_S (gA base) s.heap H locs → lv_has ls 4 [(0, .ref (ad 60)), (1, .int x1), (2, .int t.1), (3, .int t.2)] → W p l e ({ frames := 3, cells := 0, slots := 0, locals := 67 } : Room) s m args below meth c H locs 0 0 (MQ below (gQ (some (.int RES)) gFull D cy ad base μ) args s 0 0 (gA base)) (F0 m 4 ls [])) (kx : ∀ (t : Int32) {H : Heap} {locs : List Loc} {ls : Array Slot}, o = .inr t → gW gFull D cy ad base μ H → va_S (gA base) s.heap H locs → lv_has ls 4 [(2, .int t)] → W p l e ({ frames := 3, cells := 0, slots := 0, locals := 67 } : Room) s m args below meth c H locs 0 0 (MQ below (gQ (some (.int RES)) gFull D cy ad base μ) args s 0 0 (gA base)) (F0 m 28 ls []))  {H : Heap} {locs : List Loc} {ls : Array Slot} (hM : gW gFull D cy ad base μ H) (hS : va_S (gA base) s.heap H locs) (hl : lv_has ls 4 [(0, .ref (ad 60)), (1, .int x1), (2, .int x2), (3, .int x3)]) : W p l e ({ frames := 3, cells := 0, slots := 0, locals := 67 } : Room) s m args below meth c H locs 0 0 (MQ below (gQ (some (.int RES)) gFull D cy ad base μ) args s 0 0 (gA base)) (F0 m 4 ls []) := by
  obtain ⟨hx, hb, hml, hown, hlocks, hr⟩ := id F
  unfold b_X8_rise_4 at h
  refine lv_iload_n hx hb dX8_rise_4 rfl (lv_at hl 3 rfl) ?_
  refine lv_aload_n hx hb dX8_rise_5 rfl (lv_at hl 0 rfl) ?_
  refine lv_iload_n hx hb dX8_rise_6 rfl (lv_at hl 1 rfl) ?_
  obtain ⟨q1, hq1, h⟩ := gbind_e h
  refine g_callV (As := [.int x1]) (rest := [.int x3]) hx hb (hml.trans hl.1.symm) hown E hM hS hy_X8_setups kw_1583 (c_X8_setups hq1) hk_60 dd_60 rfl rfl rfl (Nat.le_of_ble_eq_true rfl) ⟨Nat.le_of_ble_eq_true rfl, Nat.le_of_ble_eq_true rfl⟩ ⟨Nat.le_of_ble_eq_true rfl, Nat.le_of_ble_eq_true rfl⟩ dX8_rise_7 (fun H locs hM hS => ?_)
  refine lv_icmp_ge (tgt := 28) hx hb dX8_rise_10 (by decide) (fun c2 => ?_) (fun c2 => ?_)
  · replace h := gif_t c2 h
    exact kx _ (Option.some.inj h).symm hM hS (lv_sub hl [2] rfl)
  · replace h := gif_f c2 h
    refine lv_iload_n hx hb dX8_rise_13 rfl (lv_at hl 2 rfl) ?_
    refine lv_aload_n hx hb dX8_rise_14 rfl (lv_at hl 0 rfl) ?_
    refine lv_iload_n hx hb dX8_rise_15 rfl (lv_at hl 1 rfl) ?_
    refine lv_iload_n hx hb dX8_rise_16 rfl (lv_at hl 3 rfl) ?_
    obtain ⟨q3, hq3, h⟩ := gbind_e h
    refine g_callV (As := [.int x1, .int x3]) (rest := [.int x2]) hx hb (hml.trans hl.1.symm) hown E hM hS hy_X8_step kw_1612 (c_X8_step hq3) hk_60 dd_60 rfl rfl rfl (Nat.le_of_ble_eq_true rfl) ⟨Nat.le_of_ble_eq_true rfl, Nat.le_of_ble_eq_true rfl⟩ ⟨Nat.le_of_ble_eq_true rfl, Nat.le_of_ble_eq_true rfl⟩ dX8_rise_17 (fun H locs hM hS => ?_)
    refine lv_iadd hx hb dX8_rise_20 ?_
    refine lv_istore_n (lv' := [(2, .int (x2 + q3)), (0, .ref (ad 60)), (1, .int x1), (3, .int x3)]) hx hb dX8_rise_21 rfl hl (by decide) rfl (fun ls hl => ?_)
    refine lv_iinc (v := (x3 + (1 : Int32))) (lv' := [(3, .int (x3 + (1 : Int32))), (2, .int (x2 + q3)), (0, .ref (ad 60)), (1, .int x1)]) hx hb dX8_rise_22 hl (k := 3) rfl rfl (by decide) rfl (fun ls hl => ?_)
    refine lv_goto (tgt := 4) hx hb dX8_rise_25 (by decide) ?_
    exact kc _ (Option.some.inj h).symm hM hS (lv_sub hl [2, 3, 1, 0] rfl)
set_option maxHeartbeats 4000000 in
theorem wl_X8_rise_4 {p : Program} {l : Launch} {e : Env} {s : State} {m : MethodId} {args : Array Value} {below : List Frame} {meth : Method} {c : Code} {D : va_G} {cy : Nat → ClassId} {ad : Nat → Nat} {base : Nat} {x1 : Int32} {μ : gM} {r : Int32} {RES : Int32} (F : gF p s m meth c cX8_rise RX8 4 (some .int)) (E : gEnv l D cy ad base s) (kx : ∀ (t : Int32) {H : Heap} {locs : List Loc} {ls : Array Slot}, r = t → gW gFull D cy ad base μ H → va_S (gA base) s.heap H locs → lv_has ls 4 [(2, .int t)] → W p l e ({ frames := 3, cells := 0, slots := 0, locals := 67 } : Room) s m args below meth c H locs 0 0 (MQ below (gQ (some (.int RES)) gFull D cy ad base μ) args s 0 0 (gA base)) (F0 m 28 ls []))  : ∀ (n : Nat) (x2 : Int32) (x3 : Int32), gloop (fun t => b_X8_rise_4 x1 t.1 t.2 μ) n (x2, x3) = some r → ∀ {H : Heap} {locs : List Loc} {ls : Array Slot}, gW gFull D cy ad base μ H → va_S (gA base) s.heap H locs → lv_has ls 4 [(0, .ref (ad 60)), (1, .int x1), (2, .int x2), (3, .int x3)] → W p l e ({ frames := 3, cells := 0, slots := 0, locals := 67 } : Room) s m args below meth c H locs 0 0 (MQ below (gQ (some (.int RES)) gFull D cy ad base μ) args s 0 0 (gA base)) (F0 m 4 ls []) := by
  intro n
  induction n with
  | zero =>
    intro x2 x3 h
    exact (gloop_0 h).elim
  | succ n ih =>
    intro x2 x3 h H locs ls hM hS hl
    obtain ⟨o, h0, hc, hq⟩ := gloop_s h
    have h1 : b_X8_rise_4 x1 x2 x3 μ = some o := h0
    exact wb_X8_rise_4 h1 F E (fun t H locs ls ho hM hS hl => ih t.1 t.2 (hc t ho) hM hS hl) (fun t H locs ls ho hM hS hl => kx t (hq _ ho).symm hM hS hl) hM hS hl
def f_X8_rise (p1 : Int32) (μ : gM) : Option (Int32) :=
  Option.bind (gloop (fun t => b_X8_rise_4 p1 t.1 t.2 μ) gFuel ((0 : Int32), (0 : Int32))) (fun q4 => some q4)
set_option maxHeartbeats 4000000 in
set_option maxRecDepth 100000 in
theorem c_X8_rise {l : Launch} {D : va_G} {cy : Nat → ClassId} {ad : Nat → Nat} {base : Nat} {p1 : Int32} {μ : gM} {RES : Int32} (h : f_X8_rise p1 μ = some RES) : Met l yX8_rise [.code yX8_rise cX8_rise 4 (some .int)] ({ frames := 3, cells := 0, slots := 0, locals := 67 } : Room) (va_Pc [.ref (ad 60), .int p1] (gB l gFull D cy ad base μ)) (gQ (some (.int RES)) gFull D cy ad base μ) 0 0 (gA base) := by
  refine Met.ofW (cc := cX8_rise) (maxL := 4) (ret := (some .int)) (by decide) rfl ?_
  intro p e s m args below meth c s₁ B hml0 hv
  obtain ⟨rfl, E, hM⟩ := hv
  have F : gF p s m meth c cX8_rise RX8 4 (some .int) := gF_of B hml0
  obtain ⟨hx, hb, hml, hown, hlocks, hr⟩ := id F
  have hS : va_S (gA base) s.heap s.heap [] := va_S.rf
  have hl := lv_entry ([.ref (ad 60), .int p1]) (n := 4) (Nat.le_of_ble_eq_true rfl)
  rw [lg_entry_eq]
  generalize (lg_sl ([.ref (ad 60), .int p1]) ++ List.replicate (4 - (lg_sl ([.ref (ad 60), .int p1])).length) Slot.unset).toArray = ls at hl ⊢
  have hl : lv_has ls 4 [(0, .ref (ad 60)), (1, .int p1)] := hl
  unfold f_X8_rise at h
  refine lv_iconst (v := (0 : Int32)) hx hb dX8_rise_0 (by decide) ?_
  refine lv_istore_n (lv' := [(2, .int (0 : Int32)), (0, .ref (ad 60)), (1, .int p1)]) hx hb dX8_rise_1 rfl hl (by decide) rfl (fun ls hl => ?_)
  refine lv_iconst (v := (0 : Int32)) hx hb dX8_rise_2 (by decide) ?_
  refine lv_istore_n (lv' := [(3, .int (0 : Int32)), (2, .int (0 : Int32)), (0, .ref (ad 60)), (1, .int p1)]) hx hb dX8_rise_3 rfl hl (by decide) rfl (fun ls hl => ?_)
  obtain ⟨z5, h1, h⟩ := gbind_e h
  refine wl_X8_rise_4 F E (r := z5) (fun q4 H locs ls e1 hM hS hl => ?_) gFuel (0 : Int32) (0 : Int32) h1 hM hS (lv_sub hl [2, 3, 1, 0] rfl)
  replace e1 : z5 = q4 := e1
  rw [e1] at h
  refine lv_iload_n hx hb dX8_rise_28 rfl (lv_at hl 0 rfl) ?_
  obtain rfl := Option.some.inj h
  exact g_iret hx hb hr hlocks hM hS dX8_rise_29
def f_X8_riseFrom (p1 : Int32) (p2 : Int32) (μ : gM) : Option (Int32) :=
  Option.bind (f_X8_first p1 μ) (fun q1 => if (q1 = p2) then Option.bind (f_X8_rise p1 μ) (fun q4 => some q4) else Option.bind (f_X8_rise p1 μ) (fun q3 => some (-q3)))
set_option maxHeartbeats 4000000 in
set_option maxRecDepth 100000 in
theorem c_X8_riseFrom {l : Launch} {D : va_G} {cy : Nat → ClassId} {ad : Nat → Nat} {base : Nat} {p1 : Int32} {p2 : Int32} {μ : gM} {RES : Int32} (h : f_X8_riseFrom p1 p2 μ = some RES) : Met l yX8_riseFrom [.code yX8_riseFrom cX8_riseFrom 3 (some .int)] ({ frames := 4, cells := 0, slots := 0, locals := 90 } : Room) (va_Pc [.ref (ad 60), .int p1, .int p2] (gB l gFull D cy ad base μ)) (gQ (some (.int RES)) gFull D cy ad base μ) 0 0 (gA base) := by
  refine Met.ofW (cc := cX8_riseFrom) (maxL := 3) (ret := (some .int)) (by decide) rfl ?_
  intro p e s m args below meth c s₁ B hml0 hv
  obtain ⟨rfl, E, hM⟩ := hv
  have F : gF p s m meth c cX8_riseFrom RX8 3 (some .int) := gF_of B hml0
  obtain ⟨hx, hb, hml, hown, hlocks, hr⟩ := id F
  have hS : va_S (gA base) s.heap s.heap [] := va_S.rf
  have hl := lv_entry ([.ref (ad 60), .int p1, .int p2]) (n := 3) (Nat.le_of_ble_eq_true rfl)
  rw [lg_entry_eq]
  generalize (lg_sl ([.ref (ad 60), .int p1, .int p2]) ++ List.replicate (3 - (lg_sl ([.ref (ad 60), .int p1, .int p2])).length) Slot.unset).toArray = ls at hl ⊢
  have hl : lv_has ls 3 [(0, .ref (ad 60)), (1, .int p1), (2, .int p2)] := hl
  unfold f_X8_riseFrom at h
  refine lv_aload_n hx hb dX8_riseFrom_0 rfl (lv_at hl 0 rfl) ?_
  refine lv_iload_n hx hb dX8_riseFrom_1 rfl (lv_at hl 1 rfl) ?_
  obtain ⟨q1, hq1, h⟩ := gbind_e h
  refine g_callV (As := [.int p1]) (rest := []) hx hb (hml.trans hl.1.symm) hown E hM hS hy_X8_first kw_1575 (c_X8_first hq1) hk_60 dd_60 rfl rfl rfl (Nat.le_of_ble_eq_true rfl) ⟨Nat.le_of_ble_eq_true rfl, Nat.le_of_ble_eq_true rfl⟩ ⟨Nat.le_of_ble_eq_true rfl, Nat.le_of_ble_eq_true rfl⟩ dX8_riseFrom_2 (fun H locs hM hS => ?_)
  refine lv_iload_n hx hb dX8_riseFrom_5 rfl (lv_at hl 2 rfl) ?_
  refine lv_icmp_ne (tgt := 17) hx hb dX8_riseFrom_6 (by decide) (fun c2 => ?_) (fun c2 => ?_)
  · replace h := gif_f c2 h
    refine lv_aload_n hx hb dX8_riseFrom_17 rfl (lv_at hl 0 rfl) ?_
    refine lv_iload_n hx hb dX8_riseFrom_18 rfl (lv_at hl 1 rfl) ?_
    obtain ⟨q3, hq3, h⟩ := gbind_e h
    refine g_callV (As := [.int p1]) (rest := []) hx hb (hml.trans hl.1.symm) hown E hM hS hy_X8_rise kw_1624 (c_X8_rise hq3) hk_60 dd_60 rfl rfl rfl (Nat.le_of_ble_eq_true rfl) ⟨Nat.le_of_ble_eq_true rfl, Nat.le_of_ble_eq_true rfl⟩ ⟨Nat.le_of_ble_eq_true rfl, Nat.le_of_ble_eq_true rfl⟩ dX8_riseFrom_19 (fun H locs hM hS => ?_)
    refine lv_ineg hx hb dX8_riseFrom_22 ?_
    obtain rfl := Option.some.inj h
    exact g_iret hx hb hr hlocks hM hS dX8_riseFrom_23
  · replace h := gif_t c2 h
    refine lv_aload_n hx hb dX8_riseFrom_9 rfl (lv_at hl 0 rfl) ?_
    refine lv_iload_n hx hb dX8_riseFrom_10 rfl (lv_at hl 1 rfl) ?_
    obtain ⟨q4, hq4, h⟩ := gbind_e h
    refine g_callV (As := [.int p1]) (rest := []) hx hb (hml.trans hl.1.symm) hown E hM hS hy_X8_rise kw_1624 (c_X8_rise hq4) hk_60 dd_60 rfl rfl rfl (Nat.le_of_ble_eq_true rfl) ⟨Nat.le_of_ble_eq_true rfl, Nat.le_of_ble_eq_true rfl⟩ ⟨Nat.le_of_ble_eq_true rfl, Nat.le_of_ble_eq_true rfl⟩ dX8_riseFrom_11 (fun H locs hM hS => ?_)
    refine lv_goto (tgt := 23) hx hb dX8_riseFrom_14 (by decide) ?_
    obtain rfl := Option.some.inj h
    exact g_iret hx hb hr hlocks hM hS dX8_riseFrom_23
def f_X8_otherOf (p1 : Int32) (p2 : Int32) (μ : gM) : Option (Int32) :=
  Option.bind (f_X8_first p1 μ) (fun q1 => if (q1 = p2) then Option.bind (f_X8_second p1 μ) (fun q4 => some q4) else Option.bind (f_X8_first p1 μ) (fun q3 => some q3))
set_option maxHeartbeats 4000000 in
set_option maxRecDepth 100000 in
theorem c_X8_otherOf {l : Launch} {D : va_G} {cy : Nat → ClassId} {ad : Nat → Nat} {base : Nat} {p1 : Int32} {p2 : Int32} {μ : gM} {RES : Int32} (h : f_X8_otherOf p1 p2 μ = some RES) : Met l yX8_otherOf [.code yX8_otherOf cX8_otherOf 3 (some .int)] ({ frames := 1, cells := 0, slots := 0, locals := 21 } : Room) (va_Pc [.ref (ad 60), .int p1, .int p2] (gB l gFull D cy ad base μ)) (gQ (some (.int RES)) gFull D cy ad base μ) 0 0 (gA base) := by
  refine Met.ofW (cc := cX8_otherOf) (maxL := 3) (ret := (some .int)) (by decide) rfl ?_
  intro p e s m args below meth c s₁ B hml0 hv
  obtain ⟨rfl, E, hM⟩ := hv
  have F : gF p s m meth c cX8_otherOf RX8 3 (some .int) := gF_of B hml0
  obtain ⟨hx, hb, hml, hown, hlocks, hr⟩ := id F
  have hS : va_S (gA base) s.heap s.heap [] := va_S.rf
  have hl := lv_entry ([.ref (ad 60), .int p1, .int p2]) (n := 3) (Nat.le_of_ble_eq_true rfl)
  rw [lg_entry_eq]
  generalize (lg_sl ([.ref (ad 60), .int p1, .int p2]) ++ List.replicate (3 - (lg_sl ([.ref (ad 60), .int p1, .int p2])).length) Slot.unset).toArray = ls at hl ⊢
  have hl : lv_has ls 3 [(0, .ref (ad 60)), (1, .int p1), (2, .int p2)] := hl
  unfold f_X8_otherOf at h
  refine lv_aload_n hx hb dX8_otherOf_0 rfl (lv_at hl 0 rfl) ?_
  refine lv_iload_n hx hb dX8_otherOf_1 rfl (lv_at hl 1 rfl) ?_
  obtain ⟨q1, hq1, h⟩ := gbind_e h
  refine g_callV (As := [.int p1]) (rest := []) hx hb (hml.trans hl.1.symm) hown E hM hS hy_X8_first kw_1575 (c_X8_first hq1) hk_60 dd_60 rfl rfl rfl (Nat.le_of_ble_eq_true rfl) ⟨Nat.le_of_ble_eq_true rfl, Nat.le_of_ble_eq_true rfl⟩ ⟨Nat.le_of_ble_eq_true rfl, Nat.le_of_ble_eq_true rfl⟩ dX8_otherOf_2 (fun H locs hM hS => ?_)
  refine lv_iload_n hx hb dX8_otherOf_5 rfl (lv_at hl 2 rfl) ?_
  refine lv_icmp_ne (tgt := 17) hx hb dX8_otherOf_6 (by decide) (fun c2 => ?_) (fun c2 => ?_)
  · replace h := gif_f c2 h
    refine lv_aload_n hx hb dX8_otherOf_17 rfl (lv_at hl 0 rfl) ?_
    refine lv_iload_n hx hb dX8_otherOf_18 rfl (lv_at hl 1 rfl) ?_
    obtain ⟨q3, hq3, h⟩ := gbind_e h
    refine g_callV (As := [.int p1]) (rest := []) hx hb (hml.trans hl.1.symm) hown E hM hS hy_X8_first kw_1575 (c_X8_first hq3) hk_60 dd_60 rfl rfl rfl (Nat.le_of_ble_eq_true rfl) ⟨Nat.le_of_ble_eq_true rfl, Nat.le_of_ble_eq_true rfl⟩ ⟨Nat.le_of_ble_eq_true rfl, Nat.le_of_ble_eq_true rfl⟩ dX8_otherOf_19 (fun H locs hM hS => ?_)
    obtain rfl := Option.some.inj h
    exact g_iret hx hb hr hlocks hM hS dX8_otherOf_22
  · replace h := gif_t c2 h
    refine lv_aload_n hx hb dX8_otherOf_9 rfl (lv_at hl 0 rfl) ?_
    refine lv_iload_n hx hb dX8_otherOf_10 rfl (lv_at hl 1 rfl) ?_
    obtain ⟨q4, hq4, h⟩ := gbind_e h
    refine g_callV (As := [.int p1]) (rest := []) hx hb (hml.trans hl.1.symm) hown E hM hS hy_X8_second kw_1579 (c_X8_second hq4) hk_60 dd_60 rfl rfl rfl (Nat.le_of_ble_eq_true rfl) ⟨Nat.le_of_ble_eq_true rfl, Nat.le_of_ble_eq_true rfl⟩ ⟨Nat.le_of_ble_eq_true rfl, Nat.le_of_ble_eq_true rfl⟩ dX8_otherOf_11 (fun H locs hM hS => ?_)
    refine lv_goto (tgt := 22) hx hb dX8_otherOf_14 (by decide) ?_
    obtain rfl := Option.some.inj h
    exact g_iret hx hb hr hlocks hM hS dX8_otherOf_22
def f_X8_touches (p1 : Int32) (p2 : Int32) (μ : gM) : Option (Bool) :=
  Option.bind (f_X8_isActive p1 μ) (fun q1 => if ((b2i q1) = 0) then some false else Option.bind (f_X8_first p1 μ) (fun q3 => if (q3 = p2) then some true else Option.bind (f_X8_second p1 μ) (fun q5 => if (q5 = p2) then some true else some false)))
set_option maxHeartbeats 4000000 in
set_option maxRecDepth 100000 in
theorem c_X8_touches {l : Launch} {D : va_G} {cy : Nat → ClassId} {ad : Nat → Nat} {base : Nat} {p1 : Int32} {p2 : Int32} {μ : gM} {RES : Bool} (h : f_X8_touches p1 p2 μ = some RES) : Met l yX8_touches [.code yX8_touches cX8_touches 3 (some .boolean)] ({ frames := 1, cells := 0, slots := 0, locals := 21 } : Room) (va_Pc [.ref (ad 60), .int p1, .int p2] (gB l gFull D cy ad base μ)) (gQ (some (.int (b2i RES))) gFull D cy ad base μ) 0 0 (gA base) := by
  refine Met.ofW (cc := cX8_touches) (maxL := 3) (ret := (some .boolean)) (by decide) rfl ?_
  intro p e s m args below meth c s₁ B hml0 hv
  obtain ⟨rfl, E, hM⟩ := hv
  have F : gF p s m meth c cX8_touches RX8 3 (some .boolean) := gF_of B hml0
  obtain ⟨hx, hb, hml, hown, hlocks, hr⟩ := id F
  have hS : va_S (gA base) s.heap s.heap [] := va_S.rf
  have hl := lv_entry ([.ref (ad 60), .int p1, .int p2]) (n := 3) (Nat.le_of_ble_eq_true rfl)
  rw [lg_entry_eq]
  generalize (lg_sl ([.ref (ad 60), .int p1, .int p2]) ++ List.replicate (3 - (lg_sl ([.ref (ad 60), .int p1, .int p2])).length) Slot.unset).toArray = ls at hl ⊢
  have hl : lv_has ls 3 [(0, .ref (ad 60)), (1, .int p1), (2, .int p2)] := hl
  unfold f_X8_touches at h
  refine lv_aload_n hx hb dX8_touches_0 rfl (lv_at hl 0 rfl) ?_
  refine lv_iload_n hx hb dX8_touches_1 rfl (lv_at hl 1 rfl) ?_
  obtain ⟨q1, hq1, h⟩ := gbind_e h
  refine g_callV (As := [.int p1]) (rest := []) hx hb (hml.trans hl.1.symm) hown E hM hS hy_X8_isActive kw_1671 (c_X8_isActive hq1) hk_60 dd_60 rfl rfl rfl (Nat.le_of_ble_eq_true rfl) ⟨Nat.le_of_ble_eq_true rfl, Nat.le_of_ble_eq_true rfl⟩ ⟨Nat.le_of_ble_eq_true rfl, Nat.le_of_ble_eq_true rfl⟩ dX8_touches_2 (fun H locs hM hS => ?_)
  refine lv_if_eq (tgt := 30) hx hb dX8_touches_5 (by decide) (fun c2 => ?_) (fun c2 => ?_)
  · replace h := gif_t c2 h
    refine lv_iconst (v := (0 : Int32)) hx hb dX8_touches_30 (by decide) ?_
    obtain rfl := Option.some.inj h
    exact g_zret (v := b2i false) hx hb hr hlocks (b2i_nar false) hM hS dX8_touches_31
  · replace h := gif_f c2 h
    refine lv_aload_n hx hb dX8_touches_8 rfl (lv_at hl 0 rfl) ?_
    refine lv_iload_n hx hb dX8_touches_9 rfl (lv_at hl 1 rfl) ?_
    obtain ⟨q3, hq3, h⟩ := gbind_e h
    refine g_callV (As := [.int p1]) (rest := []) hx hb (hml.trans hl.1.symm) hown E hM hS hy_X8_first kw_1575 (c_X8_first hq3) hk_60 dd_60 rfl rfl rfl (Nat.le_of_ble_eq_true rfl) ⟨Nat.le_of_ble_eq_true rfl, Nat.le_of_ble_eq_true rfl⟩ ⟨Nat.le_of_ble_eq_true rfl, Nat.le_of_ble_eq_true rfl⟩ dX8_touches_10 (fun H locs hM hS => ?_)
    refine lv_iload_n hx hb dX8_touches_13 rfl (lv_at hl 2 rfl) ?_
    refine lv_icmp_eq (tgt := 26) hx hb dX8_touches_14 (by decide) (fun c4 => ?_) (fun c4 => ?_)
    · replace h := gif_t c4 h
      refine lv_iconst (v := (1 : Int32)) hx hb dX8_touches_26 (by decide) ?_
      refine lv_goto (tgt := 31) hx hb dX8_touches_27 (by decide) ?_
      obtain rfl := Option.some.inj h
      exact g_zret (v := b2i true) hx hb hr hlocks (b2i_nar true) hM hS dX8_touches_31
    · replace h := gif_f c4 h
      refine lv_aload_n hx hb dX8_touches_17 rfl (lv_at hl 0 rfl) ?_
      refine lv_iload_n hx hb dX8_touches_18 rfl (lv_at hl 1 rfl) ?_
      obtain ⟨q5, hq5, h⟩ := gbind_e h
      refine g_callV (As := [.int p1]) (rest := []) hx hb (hml.trans hl.1.symm) hown E hM hS hy_X8_second kw_1579 (c_X8_second hq5) hk_60 dd_60 rfl rfl rfl (Nat.le_of_ble_eq_true rfl) ⟨Nat.le_of_ble_eq_true rfl, Nat.le_of_ble_eq_true rfl⟩ ⟨Nat.le_of_ble_eq_true rfl, Nat.le_of_ble_eq_true rfl⟩ dX8_touches_19 (fun H locs hM hS => ?_)
      refine lv_iload_n hx hb dX8_touches_22 rfl (lv_at hl 2 rfl) ?_
      refine lv_icmp_ne (tgt := 30) hx hb dX8_touches_23 (by decide) (fun c6 => ?_) (fun c6 => ?_)
      · replace h := gif_f c6 h
        refine lv_iconst (v := (0 : Int32)) hx hb dX8_touches_30 (by decide) ?_
        obtain rfl := Option.some.inj h
        exact g_zret (v := b2i false) hx hb hr hlocks (b2i_nar false) hM hS dX8_touches_31
      · replace h := gif_t c6 h
        refine lv_iconst (v := (1 : Int32)) hx hb dX8_touches_26 (by decide) ?_
        refine lv_goto (tgt := 31) hx hb dX8_touches_27 (by decide) ?_
        obtain rfl := Option.some.inj h
        exact g_zret (v := b2i true) hx hb hr hlocks (b2i_nar true) hM hS dX8_touches_31
def f_X8_lineProperty (p1 : Int32) (p2 : Int32) (μ : gM) : Option (Int32 × gM) :=
  Option.bind (f_X8_isLine p1 μ) (fun q1 => Option.bind (f_X8_fails (b2i q1) μ) (fun q2 => if ((b2i q2.1) = 0) then if p2 = 0 then Option.bind (f_X8_first p1 q2.2) (fun q12 => some (q12, q2.2)) else if p2 = 1 then Option.bind (f_X8_second p1 q2.2) (fun q13 => some (q13, q2.2)) else if p2 = 2 then gchk (gIn ((44 : Int32) + p1) 137) (some ((gi q2.2 66 ((44 : Int32) + p1).toNatClampNeg), q2.2)) else if p2 = 3 then Option.bind (f_X8_setups p1 q2.2) (fun q15 => some (q15, q2.2)) else if p2 = 4 then gchk (gIn ((22 : Int32) + p1) 703) (some ((gi q2.2 61 ((22 : Int32) + p1).toNatClampNeg), q2.2)) else if p2 = 5 then Option.bind (f_X8_length p1 q2.2) (fun q17 => some (q17, q2.2)) else if p2 = 6 then Option.bind (f_X8_weight p1 q2.2) (fun q18 => some (q18, q2.2)) else some ((-2 : Int32), q2.2) else some ((0 : Int32), q2.2)))
set_option maxHeartbeats 4000000 in
set_option maxRecDepth 100000 in
theorem c_X8_lineProperty {l : Launch} {D : va_G} {cy : Nat → ClassId} {ad : Nat → Nat} {base : Nat} {p1 : Int32} {p2 : Int32} {μ : gM} {RES : Int32 × gM} (h : f_X8_lineProperty p1 p2 μ = some RES) : Met l yX8_lineProperty [.code yX8_lineProperty cX8_lineProperty 3 (some .int)] ({ frames := 5, cells := 0, slots := 0, locals := 111 } : Room) (va_Pc [.ref (ad 60), .int p1, .int p2] (gB l gFull D cy ad base μ)) (gQ (some (.int RES.1)) gFull D cy ad base RES.2) 0 0 (gA base) := by
  refine Met.ofW (cc := cX8_lineProperty) (maxL := 3) (ret := (some .int)) (by decide) rfl ?_
  intro p e s m args below meth c s₁ B hml0 hv
  obtain ⟨rfl, E, hM⟩ := hv
  have F : gF p s m meth c cX8_lineProperty RX8 3 (some .int) := gF_of B hml0
  obtain ⟨hx, hb, hml, hown, hlocks, hr⟩ := id F
  have hS : va_S (gA base) s.heap s.heap [] := va_S.rf
  have hl := lv_entry ([.ref (ad 60), .int p1, .int p2]) (n := 3) (Nat.le_of_ble_eq_true rfl)
  rw [lg_entry_eq]
  generalize (lg_sl ([.ref (ad 60), .int p1, .int p2]) ++ List.replicate (3 - (lg_sl ([.ref (ad 60), .int p1, .int p2])).length) Slot.unset).toArray = ls at hl ⊢
  have hl : lv_has ls 3 [(0, .ref (ad 60)), (1, .int p1), (2, .int p2)] := hl
  unfold f_X8_lineProperty at h
  refine lv_aload_n hx hb dX8_lineProperty_0 rfl (lv_at hl 0 rfl) ?_
  refine lv_aload_n hx hb dX8_lineProperty_1 rfl (lv_at hl 0 rfl) ?_
  refine lv_iload_n hx hb dX8_lineProperty_2 rfl (lv_at hl 1 rfl) ?_
  obtain ⟨q1, hq1, h⟩ := gbind_e h
  refine g_callV (As := [.int p1]) (rest := [.ref (ad 60)]) hx hb (hml.trans hl.1.symm) hown E hM hS hy_X8_isLine kw_1571 (c_X8_isLine hq1) hk_60 dd_60 rfl rfl rfl (Nat.le_of_ble_eq_true rfl) ⟨Nat.le_of_ble_eq_true rfl, Nat.le_of_ble_eq_true rfl⟩ ⟨Nat.le_of_ble_eq_true rfl, Nat.le_of_ble_eq_true rfl⟩ dX8_lineProperty_3 (fun H locs hM hS => ?_)
  obtain ⟨q2, hq2, h⟩ := gbind_e h
  refine g_callV (As := [.int (b2i q1)]) (rest := []) hx hb (hml.trans hl.1.symm) hown E hM hS hy_X8_fails kw_1534 (c_X8_fails hq2) hk_60 dd_60 rfl rfl rfl (Nat.le_of_ble_eq_true rfl) ⟨Nat.le_of_ble_eq_true rfl, Nat.le_of_ble_eq_true rfl⟩ ⟨Nat.le_of_ble_eq_true rfl, Nat.le_of_ble_eq_true rfl⟩ dX8_lineProperty_6 (fun H locs hM hS => ?_)
  refine lv_if_eq (tgt := 14) hx hb dX8_lineProperty_9 (by decide) (fun c3 => ?_) (fun c3 => ?_)
  · replace h := gif_t c3 h
    refine lv_iload_n hx hb dX8_lineProperty_14 rfl (lv_at hl 2 rfl) ?_
    by_cases c5 : p2 = 0
    · replace h := gif_t c5 h
      refine lv_tableIn (off := 41) (tgt := 56) hx hb dX8_lineProperty_15 (by rw [c5]; decide) (by rw [c5]; decide) (by rw [c5]; rfl) (by decide) ?_
      refine lv_aload_n hx hb dX8_lineProperty_56 rfl (lv_at hl 0 rfl) ?_
      refine lv_iload_n hx hb dX8_lineProperty_57 rfl (lv_at hl 1 rfl) ?_
      obtain ⟨q12, hq12, h⟩ := gbind_e h
      refine g_callV (As := [.int p1]) (rest := []) hx hb (hml.trans hl.1.symm) hown E hM hS hy_X8_first kw_1575 (c_X8_first hq12) hk_60 dd_60 rfl rfl rfl (Nat.le_of_ble_eq_true rfl) ⟨Nat.le_of_ble_eq_true rfl, Nat.le_of_ble_eq_true rfl⟩ ⟨Nat.le_of_ble_eq_true rfl, Nat.le_of_ble_eq_true rfl⟩ dX8_lineProperty_58 (fun H locs hM hS => ?_)
      obtain rfl := Option.some.inj h
      exact g_iret hx hb hr hlocks hM hS dX8_lineProperty_61
    · replace h := gif_f c5 h
      by_cases c6 : p2 = 1
      · replace h := gif_t c6 h
        refine lv_tableIn (off := 47) (tgt := 62) hx hb dX8_lineProperty_15 (by rw [c6]; decide) (by rw [c6]; decide) (by rw [c6]; rfl) (by decide) ?_
        refine lv_aload_n hx hb dX8_lineProperty_62 rfl (lv_at hl 0 rfl) ?_
        refine lv_iload_n hx hb dX8_lineProperty_63 rfl (lv_at hl 1 rfl) ?_
        obtain ⟨q13, hq13, h⟩ := gbind_e h
        refine g_callV (As := [.int p1]) (rest := []) hx hb (hml.trans hl.1.symm) hown E hM hS hy_X8_second kw_1579 (c_X8_second hq13) hk_60 dd_60 rfl rfl rfl (Nat.le_of_ble_eq_true rfl) ⟨Nat.le_of_ble_eq_true rfl, Nat.le_of_ble_eq_true rfl⟩ ⟨Nat.le_of_ble_eq_true rfl, Nat.le_of_ble_eq_true rfl⟩ dX8_lineProperty_64 (fun H locs hM hS => ?_)
        obtain rfl := Option.some.inj h
        exact g_iret hx hb hr hlocks hM hS dX8_lineProperty_67
      · replace h := gif_f c6 h
        by_cases c7 : p2 = 2
        · replace h := gif_t c7 h
          refine lv_tableIn (off := 53) (tgt := 68) hx hb dX8_lineProperty_15 (by rw [c7]; decide) (by rw [c7]; decide) (by rw [c7]; rfl) (by decide) ?_
          refine lv_aload_n hx hb dX8_lineProperty_68 rfl (lv_at hl 0 rfl) ?_
          refine gg_60_7 hx hb hown E hM hk_60 kw_1249 dX8_lineProperty_69 ?_
          refine lv_bipush (v := (44 : Int32)) hx hb dX8_lineProperty_72 (by decide) ?_
          refine lv_iload_n hx hb dX8_lineProperty_74 rfl (lv_at hl 1 rfl) ?_
          refine lv_iadd hx hb dX8_lineProperty_75 ?_
          obtain ⟨c14, h⟩ := gchk_e h
          refine g_iald hx hb E hM hk_66 dd_66 c14 dX8_lineProperty_76 ?_
          obtain rfl := Option.some.inj h
          exact g_iret hx hb hr hlocks hM hS dX8_lineProperty_77
        · replace h := gif_f c7 h
          by_cases c8 : p2 = 3
          · replace h := gif_t c8 h
            refine lv_tableIn (off := 63) (tgt := 78) hx hb dX8_lineProperty_15 (by rw [c8]; decide) (by rw [c8]; decide) (by rw [c8]; rfl) (by decide) ?_
            refine lv_aload_n hx hb dX8_lineProperty_78 rfl (lv_at hl 0 rfl) ?_
            refine lv_iload_n hx hb dX8_lineProperty_79 rfl (lv_at hl 1 rfl) ?_
            obtain ⟨q15, hq15, h⟩ := gbind_e h
            refine g_callV (As := [.int p1]) (rest := []) hx hb (hml.trans hl.1.symm) hown E hM hS hy_X8_setups kw_1583 (c_X8_setups hq15) hk_60 dd_60 rfl rfl rfl (Nat.le_of_ble_eq_true rfl) ⟨Nat.le_of_ble_eq_true rfl, Nat.le_of_ble_eq_true rfl⟩ ⟨Nat.le_of_ble_eq_true rfl, Nat.le_of_ble_eq_true rfl⟩ dX8_lineProperty_80 (fun H locs hM hS => ?_)
            obtain rfl := Option.some.inj h
            exact g_iret hx hb hr hlocks hM hS dX8_lineProperty_83
          · replace h := gif_f c8 h
            by_cases c9 : p2 = 4
            · replace h := gif_t c9 h
              refine lv_tableIn (off := 69) (tgt := 84) hx hb dX8_lineProperty_15 (by rw [c9]; decide) (by rw [c9]; decide) (by rw [c9]; rfl) (by decide) ?_
              refine lv_aload_n hx hb dX8_lineProperty_84 rfl (lv_at hl 0 rfl) ?_
              refine gg_60_0 hx hb hown E hM hk_60 kw_1242 dX8_lineProperty_85 ?_
              refine lv_bipush (v := (22 : Int32)) hx hb dX8_lineProperty_88 (by decide) ?_
              refine lv_iload_n hx hb dX8_lineProperty_90 rfl (lv_at hl 1 rfl) ?_
              refine lv_iadd hx hb dX8_lineProperty_91 ?_
              obtain ⟨c16, h⟩ := gchk_e h
              refine g_iald hx hb E hM hk_61 dd_61 c16 dX8_lineProperty_92 ?_
              obtain rfl := Option.some.inj h
              exact g_iret hx hb hr hlocks hM hS dX8_lineProperty_93
            · replace h := gif_f c9 h
              by_cases c10 : p2 = 5
              · replace h := gif_t c10 h
                refine lv_tableIn (off := 79) (tgt := 94) hx hb dX8_lineProperty_15 (by rw [c10]; decide) (by rw [c10]; decide) (by rw [c10]; rfl) (by decide) ?_
                refine lv_aload_n hx hb dX8_lineProperty_94 rfl (lv_at hl 0 rfl) ?_
                refine lv_iload_n hx hb dX8_lineProperty_95 rfl (lv_at hl 1 rfl) ?_
                obtain ⟨q17, hq17, h⟩ := gbind_e h
                refine g_callV (As := [.int p1]) (rest := []) hx hb (hml.trans hl.1.symm) hown E hM hS hy_X8_length kw_1587 (c_X8_length hq17) hk_60 dd_60 rfl rfl rfl (Nat.le_of_ble_eq_true rfl) ⟨Nat.le_of_ble_eq_true rfl, Nat.le_of_ble_eq_true rfl⟩ ⟨Nat.le_of_ble_eq_true rfl, Nat.le_of_ble_eq_true rfl⟩ dX8_lineProperty_96 (fun H locs hM hS => ?_)
                obtain rfl := Option.some.inj h
                exact g_iret hx hb hr hlocks hM hS dX8_lineProperty_99
              · replace h := gif_f c10 h
                by_cases c11 : p2 = 6
                · replace h := gif_t c11 h
                  refine lv_tableIn (off := 85) (tgt := 100) hx hb dX8_lineProperty_15 (by rw [c11]; decide) (by rw [c11]; decide) (by rw [c11]; rfl) (by decide) ?_
                  refine lv_aload_n hx hb dX8_lineProperty_100 rfl (lv_at hl 0 rfl) ?_
                  refine lv_iload_n hx hb dX8_lineProperty_101 rfl (lv_at hl 1 rfl) ?_
                  obtain ⟨q18, hq18, h⟩ := gbind_e h
                  refine g_callV (As := [.int p1]) (rest := []) hx hb (hml.trans hl.1.symm) hown E hM hS hy_X8_weight kw_1599 (c_X8_weight hq18) hk_60 dd_60 rfl rfl rfl (Nat.le_of_ble_eq_true rfl) ⟨Nat.le_of_ble_eq_true rfl, Nat.le_of_ble_eq_true rfl⟩ ⟨Nat.le_of_ble_eq_true rfl, Nat.le_of_ble_eq_true rfl⟩ dX8_lineProperty_102 (fun H locs hM hS => ?_)
                  obtain rfl := Option.some.inj h
                  exact g_iret hx hb hr hlocks hM hS dX8_lineProperty_105
                · replace h := gif_f c11 h
                  refine lv_tableOut (tgt := 106) hx hb dX8_lineProperty_15 (g_sw7 c5 c6 c7 c8 c9 c10 c11) (by decide) ?_
                  refine lv_bipush (v := (-2 : Int32)) hx hb dX8_lineProperty_106 (by decide) ?_
                  obtain rfl := Option.some.inj h
                  exact g_iret hx hb hr hlocks hM hS dX8_lineProperty_108
  · replace h := gif_f c3 h
    refine lv_iconst (v := (0 : Int32)) hx hb dX8_lineProperty_12 (by decide) ?_
    obtain rfl := Option.some.inj h
    exact g_iret hx hb hr hlocks hM hS dX8_lineProperty_13
def f_X8_reading (p1 : Int32) (p2 : Int32) (p3 : Int32) (μ : gM) : Option (Int32 × gM) :=
  Option.bind (f_X8_isLine p1 μ) (fun q1 => Option.bind (f_X8_fails (b2i q1) μ) (fun q2 => if ((b2i q2.1) = 0) then Option.bind (f_X8_setups p1 q2.2) (fun q4 => Option.bind (f_X8_inRange p2 (0 : Int32) (q4 - (1 : Int32)) q2.2) (fun q5 => if ((b2i q5) = 0) then some ((-1 : Int32), q2.2) else Option.bind (f_X8_inRange p3 (0 : Int32) (3 : Int32) q2.2) (fun q7 => if ((b2i q7) = 0) then some ((-2 : Int32), q2.2) else Option.bind (f_X8_of p1 p2 p3 q2.2) (fun q9 => some (q9, q2.2))))) else some ((0 : Int32), q2.2)))
set_option maxHeartbeats 4000000 in
set_option maxRecDepth 100000 in
theorem c_X8_reading {l : Launch} {D : va_G} {cy : Nat → ClassId} {ad : Nat → Nat} {base : Nat} {p1 : Int32} {p2 : Int32} {p3 : Int32} {μ : gM} {RES : Int32 × gM} (h : f_X8_reading p1 p2 p3 μ = some RES) : Met l yX8_reading [.code yX8_reading cX8_reading 4 (some .int)] ({ frames := 2, cells := 0, slots := 0, locals := 45 } : Room) (va_Pc [.ref (ad 60), .int p1, .int p2, .int p3] (gB l gFull D cy ad base μ)) (gQ (some (.int RES.1)) gFull D cy ad base RES.2) 0 0 (gA base) := by
  refine Met.ofW (cc := cX8_reading) (maxL := 4) (ret := (some .int)) (by decide) rfl ?_
  intro p e s m args below meth c s₁ B hml0 hv
  obtain ⟨rfl, E, hM⟩ := hv
  have F : gF p s m meth c cX8_reading RX8 4 (some .int) := gF_of B hml0
  obtain ⟨hx, hb, hml, hown, hlocks, hr⟩ := id F
  have hS : va_S (gA base) s.heap s.heap [] := va_S.rf
  have hl := lv_entry ([.ref (ad 60), .int p1, .int p2, .int p3]) (n := 4) (Nat.le_of_ble_eq_true rfl)
  rw [lg_entry_eq]
  generalize (lg_sl ([.ref (ad 60), .int p1, .int p2, .int p3]) ++ List.replicate (4 - (lg_sl ([.ref (ad 60), .int p1, .int p2, .int p3])).length) Slot.unset).toArray = ls at hl ⊢
  have hl : lv_has ls 4 [(0, .ref (ad 60)), (1, .int p1), (2, .int p2), (3, .int p3)] := hl
  unfold f_X8_reading at h
  refine lv_aload_n hx hb dX8_reading_0 rfl (lv_at hl 0 rfl) ?_
  refine lv_aload_n hx hb dX8_reading_1 rfl (lv_at hl 0 rfl) ?_
  refine lv_iload_n hx hb dX8_reading_2 rfl (lv_at hl 1 rfl) ?_
  obtain ⟨q1, hq1, h⟩ := gbind_e h
  refine g_callV (As := [.int p1]) (rest := [.ref (ad 60)]) hx hb (hml.trans hl.1.symm) hown E hM hS hy_X8_isLine kw_1571 (c_X8_isLine hq1) hk_60 dd_60 rfl rfl rfl (Nat.le_of_ble_eq_true rfl) ⟨Nat.le_of_ble_eq_true rfl, Nat.le_of_ble_eq_true rfl⟩ ⟨Nat.le_of_ble_eq_true rfl, Nat.le_of_ble_eq_true rfl⟩ dX8_reading_3 (fun H locs hM hS => ?_)
  obtain ⟨q2, hq2, h⟩ := gbind_e h
  refine g_callV (As := [.int (b2i q1)]) (rest := []) hx hb (hml.trans hl.1.symm) hown E hM hS hy_X8_fails kw_1534 (c_X8_fails hq2) hk_60 dd_60 rfl rfl rfl (Nat.le_of_ble_eq_true rfl) ⟨Nat.le_of_ble_eq_true rfl, Nat.le_of_ble_eq_true rfl⟩ ⟨Nat.le_of_ble_eq_true rfl, Nat.le_of_ble_eq_true rfl⟩ dX8_reading_6 (fun H locs hM hS => ?_)
  refine lv_if_eq (tgt := 14) hx hb dX8_reading_9 (by decide) (fun c3 => ?_) (fun c3 => ?_)
  · replace h := gif_t c3 h
    refine lv_iload_n hx hb dX8_reading_14 rfl (lv_at hl 2 rfl) ?_
    refine lv_iconst (v := (0 : Int32)) hx hb dX8_reading_15 (by decide) ?_
    refine lv_aload_n hx hb dX8_reading_16 rfl (lv_at hl 0 rfl) ?_
    refine lv_iload_n hx hb dX8_reading_17 rfl (lv_at hl 1 rfl) ?_
    obtain ⟨q4, hq4, h⟩ := gbind_e h
    refine g_callV (As := [.int p1]) (rest := [.int (0 : Int32), .int p2]) hx hb (hml.trans hl.1.symm) hown E hM hS hy_X8_setups kw_1583 (c_X8_setups hq4) hk_60 dd_60 rfl rfl rfl (Nat.le_of_ble_eq_true rfl) ⟨Nat.le_of_ble_eq_true rfl, Nat.le_of_ble_eq_true rfl⟩ ⟨Nat.le_of_ble_eq_true rfl, Nat.le_of_ble_eq_true rfl⟩ dX8_reading_18 (fun H locs hM hS => ?_)
    refine lv_iconst (v := (1 : Int32)) hx hb dX8_reading_21 (by decide) ?_
    refine lv_isub hx hb dX8_reading_22 ?_
    obtain ⟨q5, hq5, h⟩ := gbind_e h
    refine g_callS (As := [.int p2, .int (0 : Int32), .int (q4 - (1 : Int32))]) (rest := []) hx hb (hml.trans hl.1.symm) hown E hM hS hy_X8_inRange kw_1379 (c_X8_inRange hq5) rfl rfl (Nat.le_of_ble_eq_true rfl) ⟨Nat.le_of_ble_eq_true rfl, Nat.le_of_ble_eq_true rfl⟩ ⟨Nat.le_of_ble_eq_true rfl, Nat.le_of_ble_eq_true rfl⟩ dX8_reading_23 (fun H locs hM hS => ?_)
    refine lv_if_ne (tgt := 31) hx hb dX8_reading_26 (by decide) (fun c6 => ?_) (fun c6 => ?_)
    · replace h := gif_f c6 h
      refine lv_iload_n hx hb dX8_reading_31 rfl (lv_at hl 3 rfl) ?_
      refine lv_iconst (v := (0 : Int32)) hx hb dX8_reading_32 (by decide) ?_
      refine lv_iconst (v := (3 : Int32)) hx hb dX8_reading_33 (by decide) ?_
      obtain ⟨q7, hq7, h⟩ := gbind_e h
      refine g_callS (As := [.int p3, .int (0 : Int32), .int (3 : Int32)]) (rest := []) hx hb (hml.trans hl.1.symm) hown E hM hS hy_X8_inRange kw_1379 (c_X8_inRange hq7) rfl rfl (Nat.le_of_ble_eq_true rfl) ⟨Nat.le_of_ble_eq_true rfl, Nat.le_of_ble_eq_true rfl⟩ ⟨Nat.le_of_ble_eq_true rfl, Nat.le_of_ble_eq_true rfl⟩ dX8_reading_34 (fun H locs hM hS => ?_)
      refine lv_if_eq (tgt := 50) hx hb dX8_reading_37 (by decide) (fun c8 => ?_) (fun c8 => ?_)
      · replace h := gif_t c8 h
        refine lv_bipush (v := (-2 : Int32)) hx hb dX8_reading_50 (by decide) ?_
        obtain rfl := Option.some.inj h
        exact g_iret hx hb hr hlocks hM hS dX8_reading_52
      · replace h := gif_f c8 h
        refine lv_aload_n hx hb dX8_reading_40 rfl (lv_at hl 0 rfl) ?_
        refine lv_iload_n hx hb dX8_reading_41 rfl (lv_at hl 1 rfl) ?_
        refine lv_iload_n hx hb dX8_reading_42 rfl (lv_at hl 2 rfl) ?_
        refine lv_iload_n hx hb dX8_reading_43 rfl (lv_at hl 3 rfl) ?_
        obtain ⟨q9, hq9, h⟩ := gbind_e h
        refine g_callV (As := [.int p1, .int p2, .int p3]) (rest := []) hx hb (hml.trans hl.1.symm) hown E hM hS hy_X8_of kw_1595 (c_X8_of hq9) hk_60 dd_60 rfl rfl rfl (Nat.le_of_ble_eq_true rfl) ⟨Nat.le_of_ble_eq_true rfl, Nat.le_of_ble_eq_true rfl⟩ ⟨Nat.le_of_ble_eq_true rfl, Nat.le_of_ble_eq_true rfl⟩ dX8_reading_44 (fun H locs hM hS => ?_)
        refine lv_goto (tgt := 52) hx hb dX8_reading_47 (by decide) ?_
        obtain rfl := Option.some.inj h
        exact g_iret hx hb hr hlocks hM hS dX8_reading_52
    · replace h := gif_t c6 h
      refine lv_iconst (v := (-1 : Int32)) hx hb dX8_reading_29 (by decide) ?_
      obtain rfl := Option.some.inj h
      exact g_iret hx hb hr hlocks hM hS dX8_reading_30
  · replace h := gif_f c3 h
    refine lv_iconst (v := (0 : Int32)) hx hb dX8_reading_12 (by decide) ?_
    obtain rfl := Option.some.inj h
    exact g_iret hx hb hr hlocks hM hS dX8_reading_13
def f_X8_stepOf (p1 : Int32) (p2 : Int32) (μ : gM) : Option (Int32 × gM) :=
  Option.bind (f_X8_isLine p1 μ) (fun q1 => Option.bind (f_X8_fails (b2i q1) μ) (fun q2 => if ((b2i q2.1) = 0) then Option.bind (f_X8_setups p1 q2.2) (fun q4 => Option.bind (f_X8_inRange p2 (0 : Int32) (q4 - (1 : Int32)) q2.2) (fun q5 => if ((b2i q5) = 0) then some ((-2147483648 : Int32), q2.2) else Option.bind (f_X8_step p1 p2 q2.2) (fun q7 => some (q7, q2.2)))) else some ((0 : Int32), q2.2)))
set_option maxHeartbeats 4000000 in
set_option maxRecDepth 100000 in
theorem c_X8_stepOf {l : Launch} {D : va_G} {cy : Nat → ClassId} {ad : Nat → Nat} {base : Nat} {p1 : Int32} {p2 : Int32} {μ : gM} {RES : Int32 × gM} (h : f_X8_stepOf p1 p2 μ = some RES) : Met l yX8_stepOf [.code yX8_stepOf cX8_stepOf 3 (some .int)] ({ frames := 3, cells := 0, slots := 0, locals := 67 } : Room) (va_Pc [.ref (ad 60), .int p1, .int p2] (gB l gFull D cy ad base μ)) (gQ (some (.int RES.1)) gFull D cy ad base RES.2) 0 0 (gA base) := by
  refine Met.ofW (cc := cX8_stepOf) (maxL := 3) (ret := (some .int)) (by decide) rfl ?_
  intro p e s m args below meth c s₁ B hml0 hv
  obtain ⟨rfl, E, hM⟩ := hv
  have F : gF p s m meth c cX8_stepOf RX8 3 (some .int) := gF_of B hml0
  obtain ⟨hx, hb, hml, hown, hlocks, hr⟩ := id F
  have hS : va_S (gA base) s.heap s.heap [] := va_S.rf
  have hl := lv_entry ([.ref (ad 60), .int p1, .int p2]) (n := 3) (Nat.le_of_ble_eq_true rfl)
  rw [lg_entry_eq]
  generalize (lg_sl ([.ref (ad 60), .int p1, .int p2]) ++ List.replicate (3 - (lg_sl ([.ref (ad 60), .int p1, .int p2])).length) Slot.unset).toArray = ls at hl ⊢
  have hl : lv_has ls 3 [(0, .ref (ad 60)), (1, .int p1), (2, .int p2)] := hl
  unfold f_X8_stepOf at h
  refine lv_aload_n hx hb dX8_stepOf_0 rfl (lv_at hl 0 rfl) ?_
  refine lv_aload_n hx hb dX8_stepOf_1 rfl (lv_at hl 0 rfl) ?_
  refine lv_iload_n hx hb dX8_stepOf_2 rfl (lv_at hl 1 rfl) ?_
  obtain ⟨q1, hq1, h⟩ := gbind_e h
  refine g_callV (As := [.int p1]) (rest := [.ref (ad 60)]) hx hb (hml.trans hl.1.symm) hown E hM hS hy_X8_isLine kw_1571 (c_X8_isLine hq1) hk_60 dd_60 rfl rfl rfl (Nat.le_of_ble_eq_true rfl) ⟨Nat.le_of_ble_eq_true rfl, Nat.le_of_ble_eq_true rfl⟩ ⟨Nat.le_of_ble_eq_true rfl, Nat.le_of_ble_eq_true rfl⟩ dX8_stepOf_3 (fun H locs hM hS => ?_)
  obtain ⟨q2, hq2, h⟩ := gbind_e h
  refine g_callV (As := [.int (b2i q1)]) (rest := []) hx hb (hml.trans hl.1.symm) hown E hM hS hy_X8_fails kw_1534 (c_X8_fails hq2) hk_60 dd_60 rfl rfl rfl (Nat.le_of_ble_eq_true rfl) ⟨Nat.le_of_ble_eq_true rfl, Nat.le_of_ble_eq_true rfl⟩ ⟨Nat.le_of_ble_eq_true rfl, Nat.le_of_ble_eq_true rfl⟩ dX8_stepOf_6 (fun H locs hM hS => ?_)
  refine lv_if_eq (tgt := 14) hx hb dX8_stepOf_9 (by decide) (fun c3 => ?_) (fun c3 => ?_)
  · replace h := gif_t c3 h
    refine lv_iload_n hx hb dX8_stepOf_14 rfl (lv_at hl 2 rfl) ?_
    refine lv_iconst (v := (0 : Int32)) hx hb dX8_stepOf_15 (by decide) ?_
    refine lv_aload_n hx hb dX8_stepOf_16 rfl (lv_at hl 0 rfl) ?_
    refine lv_iload_n hx hb dX8_stepOf_17 rfl (lv_at hl 1 rfl) ?_
    obtain ⟨q4, hq4, h⟩ := gbind_e h
    refine g_callV (As := [.int p1]) (rest := [.int (0 : Int32), .int p2]) hx hb (hml.trans hl.1.symm) hown E hM hS hy_X8_setups kw_1583 (c_X8_setups hq4) hk_60 dd_60 rfl rfl rfl (Nat.le_of_ble_eq_true rfl) ⟨Nat.le_of_ble_eq_true rfl, Nat.le_of_ble_eq_true rfl⟩ ⟨Nat.le_of_ble_eq_true rfl, Nat.le_of_ble_eq_true rfl⟩ dX8_stepOf_18 (fun H locs hM hS => ?_)
    refine lv_iconst (v := (1 : Int32)) hx hb dX8_stepOf_21 (by decide) ?_
    refine lv_isub hx hb dX8_stepOf_22 ?_
    obtain ⟨q5, hq5, h⟩ := gbind_e h
    refine g_callS (As := [.int p2, .int (0 : Int32), .int (q4 - (1 : Int32))]) (rest := []) hx hb (hml.trans hl.1.symm) hown E hM hS hy_X8_inRange kw_1379 (c_X8_inRange hq5) rfl rfl (Nat.le_of_ble_eq_true rfl) ⟨Nat.le_of_ble_eq_true rfl, Nat.le_of_ble_eq_true rfl⟩ ⟨Nat.le_of_ble_eq_true rfl, Nat.le_of_ble_eq_true rfl⟩ dX8_stepOf_23 (fun H locs hM hS => ?_)
    refine lv_if_eq (tgt := 38) hx hb dX8_stepOf_26 (by decide) (fun c6 => ?_) (fun c6 => ?_)
    · replace h := gif_t c6 h
      refine lv_ldc hx hb hown (v := (-2147483648 : Int32)) (E.kw kw_1554) dX8_stepOf_38 ?_
      obtain rfl := Option.some.inj h
      exact g_iret hx hb hr hlocks hM hS dX8_stepOf_40
    · replace h := gif_f c6 h
      refine lv_aload_n hx hb dX8_stepOf_29 rfl (lv_at hl 0 rfl) ?_
      refine lv_iload_n hx hb dX8_stepOf_30 rfl (lv_at hl 1 rfl) ?_
      refine lv_iload_n hx hb dX8_stepOf_31 rfl (lv_at hl 2 rfl) ?_
      obtain ⟨q7, hq7, h⟩ := gbind_e h
      refine g_callV (As := [.int p1, .int p2]) (rest := []) hx hb (hml.trans hl.1.symm) hown E hM hS hy_X8_step kw_1612 (c_X8_step hq7) hk_60 dd_60 rfl rfl rfl (Nat.le_of_ble_eq_true rfl) ⟨Nat.le_of_ble_eq_true rfl, Nat.le_of_ble_eq_true rfl⟩ ⟨Nat.le_of_ble_eq_true rfl, Nat.le_of_ble_eq_true rfl⟩ dX8_stepOf_32 (fun H locs hM hS => ?_)
      refine lv_goto (tgt := 40) hx hb dX8_stepOf_35 (by decide) ?_
      obtain rfl := Option.some.inj h
      exact g_iret hx hb hr hlocks hM hS dX8_stepOf_40
  · replace h := gif_f c3 h
    refine lv_iconst (v := (0 : Int32)) hx hb dX8_stepOf_12 (by decide) ?_
    obtain rfl := Option.some.inj h
    exact g_iret hx hb hr hlocks hM hS dX8_stepOf_13
def f_X8_riseOf (p1 : Int32) (μ : gM) : Option (Int32 × gM) :=
  Option.bind (f_X8_isLine p1 μ) (fun q1 => Option.bind (f_X8_fails (b2i q1) μ) (fun q2 => if ((b2i q2.1) = 0) then Option.bind (f_X8_rise p1 q2.2) (fun q4 => some (q4, q2.2)) else some ((0 : Int32), q2.2)))
set_option maxHeartbeats 4000000 in
set_option maxRecDepth 100000 in
theorem c_X8_riseOf {l : Launch} {D : va_G} {cy : Nat → ClassId} {ad : Nat → Nat} {base : Nat} {p1 : Int32} {μ : gM} {RES : Int32 × gM} (h : f_X8_riseOf p1 μ = some RES) : Met l yX8_riseOf [.code yX8_riseOf cX8_riseOf 2 (some .int)] ({ frames := 4, cells := 0, slots := 0, locals := 90 } : Room) (va_Pc [.ref (ad 60), .int p1] (gB l gFull D cy ad base μ)) (gQ (some (.int RES.1)) gFull D cy ad base RES.2) 0 0 (gA base) := by
  refine Met.ofW (cc := cX8_riseOf) (maxL := 2) (ret := (some .int)) (by decide) rfl ?_
  intro p e s m args below meth c s₁ B hml0 hv
  obtain ⟨rfl, E, hM⟩ := hv
  have F : gF p s m meth c cX8_riseOf RX8 2 (some .int) := gF_of B hml0
  obtain ⟨hx, hb, hml, hown, hlocks, hr⟩ := id F
  have hS : va_S (gA base) s.heap s.heap [] := va_S.rf
  have hl := lv_entry ([.ref (ad 60), .int p1]) (n := 2) (Nat.le_of_ble_eq_true rfl)
  rw [lg_entry_eq]
  generalize (lg_sl ([.ref (ad 60), .int p1]) ++ List.replicate (2 - (lg_sl ([.ref (ad 60), .int p1])).length) Slot.unset).toArray = ls at hl ⊢
  have hl : lv_has ls 2 [(0, .ref (ad 60)), (1, .int p1)] := hl
  unfold f_X8_riseOf at h
  refine lv_aload_n hx hb dX8_riseOf_0 rfl (lv_at hl 0 rfl) ?_
  refine lv_aload_n hx hb dX8_riseOf_1 rfl (lv_at hl 0 rfl) ?_
  refine lv_iload_n hx hb dX8_riseOf_2 rfl (lv_at hl 1 rfl) ?_
  obtain ⟨q1, hq1, h⟩ := gbind_e h
  refine g_callV (As := [.int p1]) (rest := [.ref (ad 60)]) hx hb (hml.trans hl.1.symm) hown E hM hS hy_X8_isLine kw_1571 (c_X8_isLine hq1) hk_60 dd_60 rfl rfl rfl (Nat.le_of_ble_eq_true rfl) ⟨Nat.le_of_ble_eq_true rfl, Nat.le_of_ble_eq_true rfl⟩ ⟨Nat.le_of_ble_eq_true rfl, Nat.le_of_ble_eq_true rfl⟩ dX8_riseOf_3 (fun H locs hM hS => ?_)
  obtain ⟨q2, hq2, h⟩ := gbind_e h
  refine g_callV (As := [.int (b2i q1)]) (rest := []) hx hb (hml.trans hl.1.symm) hown E hM hS hy_X8_fails kw_1534 (c_X8_fails hq2) hk_60 dd_60 rfl rfl rfl (Nat.le_of_ble_eq_true rfl) ⟨Nat.le_of_ble_eq_true rfl, Nat.le_of_ble_eq_true rfl⟩ ⟨Nat.le_of_ble_eq_true rfl, Nat.le_of_ble_eq_true rfl⟩ dX8_riseOf_6 (fun H locs hM hS => ?_)
  refine lv_if_eq (tgt := 16) hx hb dX8_riseOf_9 (by decide) (fun c3 => ?_) (fun c3 => ?_)
  · replace h := gif_t c3 h
    refine lv_aload_n hx hb dX8_riseOf_16 rfl (lv_at hl 0 rfl) ?_
    refine lv_iload_n hx hb dX8_riseOf_17 rfl (lv_at hl 1 rfl) ?_
    obtain ⟨q4, hq4, h⟩ := gbind_e h
    refine g_callV (As := [.int p1]) (rest := []) hx hb (hml.trans hl.1.symm) hown E hM hS hy_X8_rise kw_1624 (c_X8_rise hq4) hk_60 dd_60 rfl rfl rfl (Nat.le_of_ble_eq_true rfl) ⟨Nat.le_of_ble_eq_true rfl, Nat.le_of_ble_eq_true rfl⟩ ⟨Nat.le_of_ble_eq_true rfl, Nat.le_of_ble_eq_true rfl⟩ dX8_riseOf_18 (fun H locs hM hS => ?_)
    obtain rfl := Option.some.inj h
    exact g_iret hx hb hr hlocks hM hS dX8_riseOf_21
  · replace h := gif_f c3 h
    refine lv_iconst (v := (0 : Int32)) hx hb dX8_riseOf_12 (by decide) ?_
    refine lv_goto (tgt := 21) hx hb dX8_riseOf_13 (by decide) ?_
    obtain rfl := Option.some.inj h
    exact g_iret hx hb hr hlocks hM hS dX8_riseOf_21
def f_X8_collimationEffect (p1 : Int32) (μ : gM) : Option (Int32 × gM) :=
  Option.bind (f_X8_isLine p1 μ) (fun q1 => Option.bind (f_X8_fails (b2i q1) μ) (fun q2 => if ((b2i q2.1) = 0) then Option.bind (f_X8_lineCollimation p1 q2.2) (fun q4 => Option.bind (f_X8_balance p1 q2.2) (fun q5 => some (((-q4) * q5), q2.2))) else some ((0 : Int32), q2.2)))
set_option maxHeartbeats 4000000 in
set_option maxRecDepth 100000 in
theorem c_X8_collimationEffect {l : Launch} {D : va_G} {cy : Nat → ClassId} {ad : Nat → Nat} {base : Nat} {p1 : Int32} {μ : gM} {RES : Int32 × gM} (h : f_X8_collimationEffect p1 μ = some RES) : Met l yX8_collimationEffect [.code yX8_collimationEffect cX8_collimationEffect 2 (some .int)] ({ frames := 4, cells := 0, slots := 0, locals := 90 } : Room) (va_Pc [.ref (ad 60), .int p1] (gB l gFull D cy ad base μ)) (gQ (some (.int RES.1)) gFull D cy ad base RES.2) 0 0 (gA base) := by
  refine Met.ofW (cc := cX8_collimationEffect) (maxL := 2) (ret := (some .int)) (by decide) rfl ?_
  intro p e s m args below meth c s₁ B hml0 hv
  obtain ⟨rfl, E, hM⟩ := hv
  have F : gF p s m meth c cX8_collimationEffect RX8 2 (some .int) := gF_of B hml0
  obtain ⟨hx, hb, hml, hown, hlocks, hr⟩ := id F
  have hS : va_S (gA base) s.heap s.heap [] := va_S.rf
  have hl := lv_entry ([.ref (ad 60), .int p1]) (n := 2) (Nat.le_of_ble_eq_true rfl)
  rw [lg_entry_eq]
  generalize (lg_sl ([.ref (ad 60), .int p1]) ++ List.replicate (2 - (lg_sl ([.ref (ad 60), .int p1])).length) Slot.unset).toArray = ls at hl ⊢
  have hl : lv_has ls 2 [(0, .ref (ad 60)), (1, .int p1)] := hl
  unfold f_X8_collimationEffect at h
  refine lv_aload_n hx hb dX8_collimationEffect_0 rfl (lv_at hl 0 rfl) ?_
  refine lv_aload_n hx hb dX8_collimationEffect_1 rfl (lv_at hl 0 rfl) ?_
  refine lv_iload_n hx hb dX8_collimationEffect_2 rfl (lv_at hl 1 rfl) ?_
  obtain ⟨q1, hq1, h⟩ := gbind_e h
  refine g_callV (As := [.int p1]) (rest := [.ref (ad 60)]) hx hb (hml.trans hl.1.symm) hown E hM hS hy_X8_isLine kw_1571 (c_X8_isLine hq1) hk_60 dd_60 rfl rfl rfl (Nat.le_of_ble_eq_true rfl) ⟨Nat.le_of_ble_eq_true rfl, Nat.le_of_ble_eq_true rfl⟩ ⟨Nat.le_of_ble_eq_true rfl, Nat.le_of_ble_eq_true rfl⟩ dX8_collimationEffect_3 (fun H locs hM hS => ?_)
  obtain ⟨q2, hq2, h⟩ := gbind_e h
  refine g_callV (As := [.int (b2i q1)]) (rest := []) hx hb (hml.trans hl.1.symm) hown E hM hS hy_X8_fails kw_1534 (c_X8_fails hq2) hk_60 dd_60 rfl rfl rfl (Nat.le_of_ble_eq_true rfl) ⟨Nat.le_of_ble_eq_true rfl, Nat.le_of_ble_eq_true rfl⟩ ⟨Nat.le_of_ble_eq_true rfl, Nat.le_of_ble_eq_true rfl⟩ dX8_collimationEffect_6 (fun H locs hM hS => ?_)
  refine lv_if_eq (tgt := 16) hx hb dX8_collimationEffect_9 (by decide) (fun c3 => ?_) (fun c3 => ?_)
  · replace h := gif_t c3 h
    refine lv_aload_n hx hb dX8_collimationEffect_16 rfl (lv_at hl 0 rfl) ?_
    refine lv_iload_n hx hb dX8_collimationEffect_17 rfl (lv_at hl 1 rfl) ?_
    obtain ⟨q4, hq4, h⟩ := gbind_e h
    refine g_callV (As := [.int p1]) (rest := []) hx hb (hml.trans hl.1.symm) hown E hM hS hy_X8_lineCollimation kw_1616 (c_X8_lineCollimation hq4) hk_60 dd_60 rfl rfl rfl (Nat.le_of_ble_eq_true rfl) ⟨Nat.le_of_ble_eq_true rfl, Nat.le_of_ble_eq_true rfl⟩ ⟨Nat.le_of_ble_eq_true rfl, Nat.le_of_ble_eq_true rfl⟩ dX8_collimationEffect_18 (fun H locs hM hS => ?_)
    refine lv_ineg hx hb dX8_collimationEffect_21 ?_
    refine lv_aload_n hx hb dX8_collimationEffect_22 rfl (lv_at hl 0 rfl) ?_
    refine lv_iload_n hx hb dX8_collimationEffect_23 rfl (lv_at hl 1 rfl) ?_
    obtain ⟨q5, hq5, h⟩ := gbind_e h
    refine g_callV (As := [.int p1]) (rest := [.int (-q4)]) hx hb (hml.trans hl.1.symm) hown E hM hS hy_X8_balance kw_1632 (c_X8_balance hq5) hk_60 dd_60 rfl rfl rfl (Nat.le_of_ble_eq_true rfl) ⟨Nat.le_of_ble_eq_true rfl, Nat.le_of_ble_eq_true rfl⟩ ⟨Nat.le_of_ble_eq_true rfl, Nat.le_of_ble_eq_true rfl⟩ dX8_collimationEffect_24 (fun H locs hM hS => ?_)
    refine lv_imul hx hb dX8_collimationEffect_27 ?_
    obtain rfl := Option.some.inj h
    exact g_iret hx hb hr hlocks hM hS dX8_collimationEffect_28
  · replace h := gif_f c3 h
    refine lv_iconst (v := (0 : Int32)) hx hb dX8_collimationEffect_12 (by decide) ?_
    refine lv_goto (tgt := 28) hx hb dX8_collimationEffect_13 (by decide) ?_
    obtain rfl := Option.some.inj h
    exact g_iret hx hb hr hlocks hM hS dX8_collimationEffect_28
def f_X8_imbalance (p1 : Int32) (μ : gM) : Option (Int32 × gM) :=
  Option.bind (f_X8_isLine p1 μ) (fun q1 => Option.bind (f_X8_fails (b2i q1) μ) (fun q2 => if ((b2i q2.1) = 0) then Option.bind (f_X8_balance p1 q2.2) (fun q4 => some (q4, q2.2)) else some ((0 : Int32), q2.2)))
set_option maxHeartbeats 4000000 in
set_option maxRecDepth 100000 in
theorem c_X8_imbalance {l : Launch} {D : va_G} {cy : Nat → ClassId} {ad : Nat → Nat} {base : Nat} {p1 : Int32} {μ : gM} {RES : Int32 × gM} (h : f_X8_imbalance p1 μ = some RES) : Met l yX8_imbalance [.code yX8_imbalance cX8_imbalance 2 (some .int)] ({ frames := 4, cells := 0, slots := 0, locals := 90 } : Room) (va_Pc [.ref (ad 60), .int p1] (gB l gFull D cy ad base μ)) (gQ (some (.int RES.1)) gFull D cy ad base RES.2) 0 0 (gA base) := by
  refine Met.ofW (cc := cX8_imbalance) (maxL := 2) (ret := (some .int)) (by decide) rfl ?_
  intro p e s m args below meth c s₁ B hml0 hv
  obtain ⟨rfl, E, hM⟩ := hv
  have F : gF p s m meth c cX8_imbalance RX8 2 (some .int) := gF_of B hml0
  obtain ⟨hx, hb, hml, hown, hlocks, hr⟩ := id F
  have hS : va_S (gA base) s.heap s.heap [] := va_S.rf
  have hl := lv_entry ([.ref (ad 60), .int p1]) (n := 2) (Nat.le_of_ble_eq_true rfl)
  rw [lg_entry_eq]
  generalize (lg_sl ([.ref (ad 60), .int p1]) ++ List.replicate (2 - (lg_sl ([.ref (ad 60), .int p1])).length) Slot.unset).toArray = ls at hl ⊢
  have hl : lv_has ls 2 [(0, .ref (ad 60)), (1, .int p1)] := hl
  unfold f_X8_imbalance at h
  refine lv_aload_n hx hb dX8_imbalance_0 rfl (lv_at hl 0 rfl) ?_
  refine lv_aload_n hx hb dX8_imbalance_1 rfl (lv_at hl 0 rfl) ?_
  refine lv_iload_n hx hb dX8_imbalance_2 rfl (lv_at hl 1 rfl) ?_
  obtain ⟨q1, hq1, h⟩ := gbind_e h
  refine g_callV (As := [.int p1]) (rest := [.ref (ad 60)]) hx hb (hml.trans hl.1.symm) hown E hM hS hy_X8_isLine kw_1571 (c_X8_isLine hq1) hk_60 dd_60 rfl rfl rfl (Nat.le_of_ble_eq_true rfl) ⟨Nat.le_of_ble_eq_true rfl, Nat.le_of_ble_eq_true rfl⟩ ⟨Nat.le_of_ble_eq_true rfl, Nat.le_of_ble_eq_true rfl⟩ dX8_imbalance_3 (fun H locs hM hS => ?_)
  obtain ⟨q2, hq2, h⟩ := gbind_e h
  refine g_callV (As := [.int (b2i q1)]) (rest := []) hx hb (hml.trans hl.1.symm) hown E hM hS hy_X8_fails kw_1534 (c_X8_fails hq2) hk_60 dd_60 rfl rfl rfl (Nat.le_of_ble_eq_true rfl) ⟨Nat.le_of_ble_eq_true rfl, Nat.le_of_ble_eq_true rfl⟩ ⟨Nat.le_of_ble_eq_true rfl, Nat.le_of_ble_eq_true rfl⟩ dX8_imbalance_6 (fun H locs hM hS => ?_)
  refine lv_if_eq (tgt := 16) hx hb dX8_imbalance_9 (by decide) (fun c3 => ?_) (fun c3 => ?_)
  · replace h := gif_t c3 h
    refine lv_aload_n hx hb dX8_imbalance_16 rfl (lv_at hl 0 rfl) ?_
    refine lv_iload_n hx hb dX8_imbalance_17 rfl (lv_at hl 1 rfl) ?_
    obtain ⟨q4, hq4, h⟩ := gbind_e h
    refine g_callV (As := [.int p1]) (rest := []) hx hb (hml.trans hl.1.symm) hown E hM hS hy_X8_balance kw_1632 (c_X8_balance hq4) hk_60 dd_60 rfl rfl rfl (Nat.le_of_ble_eq_true rfl) ⟨Nat.le_of_ble_eq_true rfl, Nat.le_of_ble_eq_true rfl⟩ ⟨Nat.le_of_ble_eq_true rfl, Nat.le_of_ble_eq_true rfl⟩ dX8_imbalance_18 (fun H locs hM hS => ?_)
    obtain rfl := Option.some.inj h
    exact g_iret hx hb hr hlocks hM hS dX8_imbalance_21
  · replace h := gif_f c3 h
    refine lv_iconst (v := (0 : Int32)) hx hb dX8_imbalance_12 (by decide) ?_
    refine lv_goto (tgt := 21) hx hb dX8_imbalance_13 (by decide) ?_
    obtain rfl := Option.some.inj h
    exact g_iret hx hb hr hlocks hM hS dX8_imbalance_21
def j_X8_faultsOf_75 (x1 : Int32) (x3 : Int32) (y0 : Int32) (y1 : Int32) (μ : gM) : Option ((Int32 × Int32) ⊕ (Int32)) :=
  Option.bind (f_X8_of x1 x3 (3 : Int32) μ) (fun q13 => gchk (gIn (1 : Int32) 703) (if (q13 ≤ (gi μ 61 (1 : Int32).toNatClampNeg)) then some (.inl (((y0 + y1) + (0 : Int32)), (x3 + (1 : Int32)))) else some (.inl (((y0 + y1) + (1 : Int32)), (x3 + (1 : Int32))))))
set_option maxHeartbeats 4000000 in
set_option maxRecDepth 100000 in
theorem wj_X8_faultsOf_75 {p : Program} {l : Launch} {e : Env} {s : State} {m : MethodId} {args : Array Value} {below : List Frame} {meth : Method} {c : Code} {D : va_G} {cy : Nat → ClassId} {ad : Nat → Nat} {base : Nat} {x1 : Int32} {x3 : Int32} {y0 : Int32} {y1 : Int32} {μ : gM} {o : (Int32 × Int32) ⊕ (Int32)} {RES : Int32 × gM} (h : j_X8_faultsOf_75 x1 x3 y0 y1 μ = some o) (F : gF p s m meth c cX8_faultsOf RX8 4 (some .int)) (E : gEnv l D cy ad base s) (kc : ∀ (t : Int32 × Int32) {H : Heap} {locs : List Loc} {ls : Array Slot}, o = .inl t → gW gFull D cy ad base μ H → va_S (gA base) s.heap H locs → lv_has ls 4 [(0, .ref (ad 60)), (1, .int x1), (2, .int t.1), (3, .int t.2)] → W p l e ({ frames := 4, cells := 0, slots := 0, locals := 90 } : Room) s m args below meth c H locs 0 0 (MQ below (gQ (some (.int RES.1)) gFull D cy ad base RES.2) args s 0 0 (gA base)) (F0 m 44 ls [])) (kx : ∀ (t : Int32) {H : Heap} {locs : List Loc} {ls : Array Slot}, o = .inr t → gW gFull D cy ad base μ H → va_S (gA base) s.heap H locs → lv_has ls 4 [(2, .int t)] → W p l e ({ frames := 4, cells := 0, slots := 0, locals := 90 } : Room) s m args below meth c H locs 0 0 (MQ below (gQ (some (.int RES.1)) gFull D cy ad base RES.2) args s 0 0 (gA base)) (F0 m 107 ls []))  {H : Heap} {locs : List Loc} {ls : Array Slot} (hM : gW gFull D cy ad base μ H) (hS : va_S (gA base) s.heap H locs) (hl : lv_has ls 4 [(0, .ref (ad 60)), (1, .int x1), (3, .int x3)]) : W p l e ({ frames := 4, cells := 0, slots := 0, locals := 90 } : Room) s m args below meth c H locs 0 0 (MQ below (gQ (some (.int RES.1)) gFull D cy ad base RES.2) args s 0 0 (gA base)) (F0 m 75 ls [.int y1, .int y0]) := by
  obtain ⟨hx, hb, hml, hown, hlocks, hr⟩ := id F
  unfold j_X8_faultsOf_75 at h
  refine lv_iadd hx hb dX8_faultsOf_75 ?_
  refine lv_istore_n (lv' := [(2, .int (y0 + y1)), (0, .ref (ad 60)), (1, .int x1), (3, .int x3)]) hx hb dX8_faultsOf_76 rfl hl (by decide) rfl (fun ls hl => ?_)
  refine lv_iload_n hx hb dX8_faultsOf_77 rfl (lv_at hl 0 rfl) ?_
  refine lv_aload_n hx hb dX8_faultsOf_78 rfl (lv_at hl 1 rfl) ?_
  refine lv_iload_n hx hb dX8_faultsOf_79 rfl (lv_at hl 2 rfl) ?_
  refine lv_iload_n hx hb dX8_faultsOf_80 rfl (lv_at hl 3 rfl) ?_
  refine lv_iconst (v := (3 : Int32)) hx hb dX8_faultsOf_81 (by decide) ?_
  obtain ⟨q13, hq13, h⟩ := gbind_e h
  refine g_callV (As := [.int x1, .int x3, .int (3 : Int32)]) (rest := [.int (y0 + y1)]) hx hb (hml.trans hl.1.symm) hown E hM hS hy_X8_of kw_1595 (c_X8_of hq13) hk_60 dd_60 rfl rfl rfl (Nat.le_of_ble_eq_true rfl) ⟨Nat.le_of_ble_eq_true rfl, Nat.le_of_ble_eq_true rfl⟩ ⟨Nat.le_of_ble_eq_true rfl, Nat.le_of_ble_eq_true rfl⟩ dX8_faultsOf_82 (fun H locs hM hS => ?_)
  refine lv_aload_n hx hb dX8_faultsOf_85 rfl (lv_at hl 1 rfl) ?_
  refine gg_60_0 hx hb hown E hM hk_60 kw_1242 dX8_faultsOf_86 ?_
  refine lv_iconst (v := (1 : Int32)) hx hb dX8_faultsOf_89 (by decide) ?_
  obtain ⟨c14, h⟩ := gchk_e h
  refine g_iald hx hb E hM hk_61 dd_61 c14 dX8_faultsOf_90 ?_
  refine lv_icmp_le (tgt := 98) hx hb dX8_faultsOf_91 (by decide) (fun c15 => ?_) (fun c15 => ?_)
  · replace h := gif_t c15 h
    refine lv_iconst (v := (0 : Int32)) hx hb dX8_faultsOf_98 (by decide) ?_
    refine lv_iadd hx hb dX8_faultsOf_99 ?_
    refine lv_istore_n (lv' := [(2, .int ((y0 + y1) + (0 : Int32))), (0, .ref (ad 60)), (1, .int x1), (3, .int x3)]) hx hb dX8_faultsOf_100 rfl hl (by decide) rfl (fun ls hl => ?_)
    refine lv_iinc (v := (x3 + (1 : Int32))) (lv' := [(3, .int (x3 + (1 : Int32))), (2, .int ((y0 + y1) + (0 : Int32))), (0, .ref (ad 60)), (1, .int x1)]) hx hb dX8_faultsOf_101 hl (k := 3) rfl rfl (by decide) rfl (fun ls hl => ?_)
    refine lv_goto (tgt := 44) hx hb dX8_faultsOf_104 (by decide) ?_
    exact kc _ (Option.some.inj h).symm hM hS (lv_sub hl [2, 3, 1, 0] rfl)
  · replace h := gif_f c15 h
    refine lv_iconst (v := (1 : Int32)) hx hb dX8_faultsOf_94 (by decide) ?_
    refine lv_goto (tgt := 99) hx hb dX8_faultsOf_95 (by decide) ?_
    refine lv_iadd hx hb dX8_faultsOf_99 ?_
    refine lv_istore_n (lv' := [(2, .int ((y0 + y1) + (1 : Int32))), (0, .ref (ad 60)), (1, .int x1), (3, .int x3)]) hx hb dX8_faultsOf_100 rfl hl (by decide) rfl (fun ls hl => ?_)
    refine lv_iinc (v := (x3 + (1 : Int32))) (lv' := [(3, .int (x3 + (1 : Int32))), (2, .int ((y0 + y1) + (1 : Int32))), (0, .ref (ad 60)), (1, .int x1)]) hx hb dX8_faultsOf_101 hl (k := 3) rfl rfl (by decide) rfl (fun ls hl => ?_)
    refine lv_goto (tgt := 44) hx hb dX8_faultsOf_104 (by decide) ?_
    exact kc _ (Option.some.inj h).symm hM hS (lv_sub hl [2, 3, 1, 0] rfl)
def b_X8_faultsOf_44 (x1 : Int32) (x2 : Int32) (x3 : Int32) (μ : gM) : Option ((Int32 × Int32) ⊕ (Int32)) :=
  Option.bind (f_X8_setups x1 μ) (fun q8 => if (q8 ≤ x3) then some (.inr x2) else Option.bind (f_X8_of x1 x3 (2 : Int32) μ) (fun q10 => gchk (gIn (1 : Int32) 703) (if (q10 ≤ (gi μ 61 (1 : Int32).toNatClampNeg)) then j_X8_faultsOf_75 x1 x3 x2 (0 : Int32) μ else j_X8_faultsOf_75 x1 x3 x2 (1 : Int32) μ)))
set_option maxHeartbeats 4000000 in
set_option maxRecDepth 100000 in
theorem wb_X8_faultsOf_44 {p : Program} {l : Launch} {e : Env} {s : State} {m : MethodId} {args : Array Value} {below : List Frame} {meth : Method} {c : Code} {D : va_G} {cy : Nat → ClassId} {ad : Nat → Nat} {base : Nat} {x1 : Int32} {x2 : Int32} {x3 : Int32} {μ : gM} {o : (Int32 × Int32) ⊕ (Int32)} {RES : Int32 × gM} (h : b_X8_faultsOf_44 x1 x2 x3 μ = some o) (F : gF p s m meth c cX8_faultsOf RX8 4 (some .int)) (E : gEnv l D cy ad base s) (kc : ∀ (t : Int32 × Int32) {H : Heap} {locs : List Loc} {ls : Array Slot}, o = .inl t → gW gFull D cy ad base μ H → va_S (gA base) s.heap H locs → lv_has ls 4 [(0, .ref (ad 60)), (1, .int x1), (2, .int t.1), (3, .int t.2)] → W p l e ({ frames := 4, cells := 0, slots := 0, locals := 90 } : Room) s m args below meth c H locs 0 0 (MQ below (gQ (some (.int RES.1)) gFull D cy ad base RES.2) args s 0 0 (gA base)) (F0 m 44 ls [])) (kx : ∀ (t : Int32) {H : Heap} {locs : List Loc} {ls : Array Slot}, o = .inr t → gW gFull D cy ad base μ H → va_S (gA base) s.heap H locs → lv_has ls 4 [(2, .int t)] → W p l e ({ frames := 4, cells := 0, slots := 0, locals := 90 } : Room) s m args below meth c H locs 0 0 (MQ below (gQ (some (.int RES.1)) gFull D cy ad base RES.2) args s 0 0 (gA base)) (F0 m 107 ls []))  {H : Heap} {locs : List Loc} {ls : Array Slot} (hM : gW gFull D cy ad base μ H) (hS : va_S (gA base) s.heap H locs) (hl : lv_has ls 4 [(0, .ref (ad 60)), (1, .int x1), (2, .int x2), (3, .int x3)]) : W p l e ({ frames := 4, cells := 0, slots := 0, locals := 90 } : Room) s m args below meth c H locs 0 0 (MQ below (gQ (some (.int RES.1)) gFull D cy ad base RES.2) args s 0 0 (gA base)) (F0 m 44 ls []) := by
  obtain ⟨hx, hb, hml, hown, hlocks, hr⟩ := id F
  unfold b_X8_faultsOf_44 at h
  refine lv_iload_n hx hb dX8_faultsOf_44 rfl (lv_at hl 3 rfl) ?_
  refine lv_aload_n hx hb dX8_faultsOf_45 rfl (lv_at hl 0 rfl) ?_
  refine lv_iload_n hx hb dX8_faultsOf_46 rfl (lv_at hl 1 rfl) ?_
  obtain ⟨q8, hq8, h⟩ := gbind_e h
  refine g_callV (As := [.int x1]) (rest := [.int x3]) hx hb (hml.trans hl.1.symm) hown E hM hS hy_X8_setups kw_1583 (c_X8_setups hq8) hk_60 dd_60 rfl rfl rfl (Nat.le_of_ble_eq_true rfl) ⟨Nat.le_of_ble_eq_true rfl, Nat.le_of_ble_eq_true rfl⟩ ⟨Nat.le_of_ble_eq_true rfl, Nat.le_of_ble_eq_true rfl⟩ dX8_faultsOf_47 (fun H locs hM hS => ?_)
  refine lv_icmp_ge (tgt := 107) hx hb dX8_faultsOf_50 (by decide) (fun c9 => ?_) (fun c9 => ?_)
  · replace h := gif_t c9 h
    exact kx _ (Option.some.inj h).symm hM hS (lv_sub hl [2] rfl)
  · replace h := gif_f c9 h
    refine lv_iload_n hx hb dX8_faultsOf_53 rfl (lv_at hl 2 rfl) ?_
    refine lv_aload_n hx hb dX8_faultsOf_54 rfl (lv_at hl 0 rfl) ?_
    refine lv_iload_n hx hb dX8_faultsOf_55 rfl (lv_at hl 1 rfl) ?_
    refine lv_iload_n hx hb dX8_faultsOf_56 rfl (lv_at hl 3 rfl) ?_
    refine lv_iconst (v := (2 : Int32)) hx hb dX8_faultsOf_57 (by decide) ?_
    obtain ⟨q10, hq10, h⟩ := gbind_e h
    refine g_callV (As := [.int x1, .int x3, .int (2 : Int32)]) (rest := [.int x2]) hx hb (hml.trans hl.1.symm) hown E hM hS hy_X8_of kw_1595 (c_X8_of hq10) hk_60 dd_60 rfl rfl rfl (Nat.le_of_ble_eq_true rfl) ⟨Nat.le_of_ble_eq_true rfl, Nat.le_of_ble_eq_true rfl⟩ ⟨Nat.le_of_ble_eq_true rfl, Nat.le_of_ble_eq_true rfl⟩ dX8_faultsOf_58 (fun H locs hM hS => ?_)
    refine lv_aload_n hx hb dX8_faultsOf_61 rfl (lv_at hl 0 rfl) ?_
    refine gg_60_0 hx hb hown E hM hk_60 kw_1242 dX8_faultsOf_62 ?_
    refine lv_iconst (v := (1 : Int32)) hx hb dX8_faultsOf_65 (by decide) ?_
    obtain ⟨c11, h⟩ := gchk_e h
    refine g_iald hx hb E hM hk_61 dd_61 c11 dX8_faultsOf_66 ?_
    refine lv_icmp_le (tgt := 74) hx hb dX8_faultsOf_67 (by decide) (fun c12 => ?_) (fun c12 => ?_)
    · replace h := gif_t c12 h
      refine lv_iconst (v := (0 : Int32)) hx hb dX8_faultsOf_74 (by decide) ?_
      exact wj_X8_faultsOf_75 h F E kc kx hM hS (lv_sub hl [0, 1, 3] rfl)
    · replace h := gif_f c12 h
      refine lv_iconst (v := (1 : Int32)) hx hb dX8_faultsOf_70 (by decide) ?_
      refine lv_goto (tgt := 75) hx hb dX8_faultsOf_71 (by decide) ?_
      exact wj_X8_faultsOf_75 h F E kc kx hM hS (lv_sub hl [0, 1, 3] rfl)
set_option maxHeartbeats 4000000 in
theorem wl_X8_faultsOf_44 {p : Program} {l : Launch} {e : Env} {s : State} {m : MethodId} {args : Array Value} {below : List Frame} {meth : Method} {c : Code} {D : va_G} {cy : Nat → ClassId} {ad : Nat → Nat} {base : Nat} {x1 : Int32} {μ : gM} {r : Int32} {RES : Int32 × gM} (F : gF p s m meth c cX8_faultsOf RX8 4 (some .int)) (E : gEnv l D cy ad base s) (kx : ∀ (t : Int32) {H : Heap} {locs : List Loc} {ls : Array Slot}, r = t → gW gFull D cy ad base μ H → va_S (gA base) s.heap H locs → lv_has ls 4 [(2, .int t)] → W p l e ({ frames := 4, cells := 0, slots := 0, locals := 90 } : Room) s m args below meth c H locs 0 0 (MQ below (gQ (some (.int RES.1)) gFull D cy ad base RES.2) args s 0 0 (gA base)) (F0 m 107 ls []))  : ∀ (n : Nat) (x2 : Int32) (x3 : Int32), gloop (fun t => b_X8_faultsOf_44 x1 t.1 t.2 μ) n (x2, x3) = some r → ∀ {H : Heap} {locs : List Loc} {ls : Array Slot}, gW gFull D cy ad base μ H → va_S (gA base) s.heap H locs → lv_has ls 4 [(0, .ref (ad 60)), (1, .int x1), (2, .int x2), (3, .int x3)] → W p l e ({ frames := 4, cells := 0, slots := 0, locals := 90 } : Room) s m args below meth c H locs 0 0 (MQ below (gQ (some (.int RES.1)) gFull D cy ad base RES.2) args s 0 0 (gA base)) (F0 m 44 ls []) := by
  intro n
  induction n with
  | zero =>
    intro x2 x3 h
    exact (gloop_0 h).elim
  | succ n ih =>
    intro x2 x3 h H locs ls hM hS hl
    obtain ⟨o, h0, hc, hq⟩ := gloop_s h
    have h1 : b_X8_faultsOf_44 x1 x2 x3 μ = some o := h0
    exact wb_X8_faultsOf_44 h1 F E (fun t H locs ls ho hM hS hl => ih t.1 t.2 (hc t ho) hM hS hl) (fun t H locs ls ho hM hS hl => kx t (hq _ ho).symm hM hS hl) hM hS hl
def j_X8_faultsOf_41 (x1 : Int32) (y0 : Int32) (μ : gM) : Option (Int32 × gM) :=
  Option.bind (gloop (fun t => b_X8_faultsOf_44 x1 t.1 t.2 μ) gFuel (y0, (0 : Int32))) (fun q16 => some (q16, μ))
set_option maxHeartbeats 4000000 in
set_option maxRecDepth 100000 in
theorem wj_X8_faultsOf_41 {p : Program} {l : Launch} {e : Env} {s : State} {m : MethodId} {args : Array Value} {below : List Frame} {meth : Method} {c : Code} {D : va_G} {cy : Nat → ClassId} {ad : Nat → Nat} {base : Nat} {x1 : Int32} {y0 : Int32} {μ : gM} {o : Int32 × gM} (h : j_X8_faultsOf_41 x1 y0 μ = some o) (F : gF p s m meth c cX8_faultsOf RX8 4 (some .int)) (E : gEnv l D cy ad base s)  {H : Heap} {locs : List Loc} {ls : Array Slot} (hM : gW gFull D cy ad base μ H) (hS : va_S (gA base) s.heap H locs) (hl : lv_has ls 4 [(0, .ref (ad 60)), (1, .int x1)]) : W p l e ({ frames := 4, cells := 0, slots := 0, locals := 90 } : Room) s m args below meth c H locs 0 0 (MQ below (gQ (some (.int o.1)) gFull D cy ad base o.2) args s 0 0 (gA base)) (F0 m 41 ls [.int y0]) := by
  obtain ⟨hx, hb, hml, hown, hlocks, hr⟩ := id F
  unfold j_X8_faultsOf_41 at h
  refine lv_istore_n (lv' := [(2, .int y0), (0, .ref (ad 60)), (1, .int x1)]) hx hb dX8_faultsOf_41 rfl hl (by decide) rfl (fun ls hl => ?_)
  refine lv_iconst (v := (0 : Int32)) hx hb dX8_faultsOf_42 (by decide) ?_
  refine lv_istore_n (lv' := [(3, .int (0 : Int32)), (2, .int y0), (0, .ref (ad 60)), (1, .int x1)]) hx hb dX8_faultsOf_43 rfl hl (by decide) rfl (fun ls hl => ?_)
  obtain ⟨z17, h1, h⟩ := gbind_e h
  refine wl_X8_faultsOf_44 F E (r := z17) (fun q16 H locs ls e1 hM hS hl => ?_) gFuel y0 (0 : Int32) h1 hM hS (lv_sub hl [2, 3, 1, 0] rfl)
  replace e1 : z17 = q16 := e1
  rw [e1] at h
  refine lv_iload_n hx hb dX8_faultsOf_107 rfl (lv_at hl 0 rfl) ?_
  obtain rfl := Option.some.inj h
  exact g_iret hx hb hr hlocks hM hS dX8_faultsOf_108
def f_X8_faultsOf (p1 : Int32) (μ : gM) : Option (Int32 × gM) :=
  Option.bind (f_X8_isLine p1 μ) (fun q1 => Option.bind (f_X8_fails (b2i q1) μ) (fun q2 => if ((b2i q2.1) = 0) then Option.bind (f_X8_balance p1 q2.2) (fun q4 => Option.bind (f_X8_size q4.toInt64 q2.2) (fun q5 => gchk (gIn (2 : Int32) 703) (if (q5 ≤ (gi q2.2 61 (2 : Int32).toNatClampNeg).toInt64) then j_X8_faultsOf_41 p1 (0 : Int32) q2.2 else j_X8_faultsOf_41 p1 (1000 : Int32) q2.2))) else some ((0 : Int32), q2.2)))
set_option maxHeartbeats 4000000 in
set_option maxRecDepth 100000 in
theorem c_X8_faultsOf {l : Launch} {D : va_G} {cy : Nat → ClassId} {ad : Nat → Nat} {base : Nat} {p1 : Int32} {μ : gM} {RES : Int32 × gM} (h : f_X8_faultsOf p1 μ = some RES) : Met l yX8_faultsOf [.code yX8_faultsOf cX8_faultsOf 4 (some .int)] ({ frames := 4, cells := 0, slots := 0, locals := 90 } : Room) (va_Pc [.ref (ad 60), .int p1] (gB l gFull D cy ad base μ)) (gQ (some (.int RES.1)) gFull D cy ad base RES.2) 0 0 (gA base) := by
  refine Met.ofW (cc := cX8_faultsOf) (maxL := 4) (ret := (some .int)) (by decide) rfl ?_
  intro p e s m args below meth c s₁ B hml0 hv
  obtain ⟨rfl, E, hM⟩ := hv
  have F : gF p s m meth c cX8_faultsOf RX8 4 (some .int) := gF_of B hml0
  obtain ⟨hx, hb, hml, hown, hlocks, hr⟩ := id F
  have hS : va_S (gA base) s.heap s.heap [] := va_S.rf
  have hl := lv_entry ([.ref (ad 60), .int p1]) (n := 4) (Nat.le_of_ble_eq_true rfl)
  rw [lg_entry_eq]
  generalize (lg_sl ([.ref (ad 60), .int p1]) ++ List.replicate (4 - (lg_sl ([.ref (ad 60), .int p1])).length) Slot.unset).toArray = ls at hl ⊢
  have hl : lv_has ls 4 [(0, .ref (ad 60)), (1, .int p1)] := hl
  unfold f_X8_faultsOf at h
  refine lv_aload_n hx hb dX8_faultsOf_0 rfl (lv_at hl 0 rfl) ?_
  refine lv_aload_n hx hb dX8_faultsOf_1 rfl (lv_at hl 0 rfl) ?_
  refine lv_iload_n hx hb dX8_faultsOf_2 rfl (lv_at hl 1 rfl) ?_
  obtain ⟨q1, hq1, h⟩ := gbind_e h
  refine g_callV (As := [.int p1]) (rest := [.ref (ad 60)]) hx hb (hml.trans hl.1.symm) hown E hM hS hy_X8_isLine kw_1571 (c_X8_isLine hq1) hk_60 dd_60 rfl rfl rfl (Nat.le_of_ble_eq_true rfl) ⟨Nat.le_of_ble_eq_true rfl, Nat.le_of_ble_eq_true rfl⟩ ⟨Nat.le_of_ble_eq_true rfl, Nat.le_of_ble_eq_true rfl⟩ dX8_faultsOf_3 (fun H locs hM hS => ?_)
  obtain ⟨q2, hq2, h⟩ := gbind_e h
  refine g_callV (As := [.int (b2i q1)]) (rest := []) hx hb (hml.trans hl.1.symm) hown E hM hS hy_X8_fails kw_1534 (c_X8_fails hq2) hk_60 dd_60 rfl rfl rfl (Nat.le_of_ble_eq_true rfl) ⟨Nat.le_of_ble_eq_true rfl, Nat.le_of_ble_eq_true rfl⟩ ⟨Nat.le_of_ble_eq_true rfl, Nat.le_of_ble_eq_true rfl⟩ dX8_faultsOf_6 (fun H locs hM hS => ?_)
  refine lv_if_eq (tgt := 14) hx hb dX8_faultsOf_9 (by decide) (fun c3 => ?_) (fun c3 => ?_)
  · replace h := gif_t c3 h
    refine lv_aload_n hx hb dX8_faultsOf_14 rfl (lv_at hl 0 rfl) ?_
    refine lv_iload_n hx hb dX8_faultsOf_15 rfl (lv_at hl 1 rfl) ?_
    obtain ⟨q4, hq4, h⟩ := gbind_e h
    refine g_callV (As := [.int p1]) (rest := []) hx hb (hml.trans hl.1.symm) hown E hM hS hy_X8_balance kw_1632 (c_X8_balance hq4) hk_60 dd_60 rfl rfl rfl (Nat.le_of_ble_eq_true rfl) ⟨Nat.le_of_ble_eq_true rfl, Nat.le_of_ble_eq_true rfl⟩ ⟨Nat.le_of_ble_eq_true rfl, Nat.le_of_ble_eq_true rfl⟩ dX8_faultsOf_16 (fun H locs hM hS => ?_)
    refine lv_i2l (v := q4.toInt64) hx hb dX8_faultsOf_19 rfl ?_
    obtain ⟨q5, hq5, h⟩ := gbind_e h
    refine g_callS (As := [.long q4.toInt64]) (rest := []) hx hb (hml.trans hl.1.symm) hown E hM hS hy_X8_size kw_1644 (c_X8_size hq5) rfl rfl (Nat.le_of_ble_eq_true rfl) ⟨Nat.le_of_ble_eq_true rfl, Nat.le_of_ble_eq_true rfl⟩ ⟨Nat.le_of_ble_eq_true rfl, Nat.le_of_ble_eq_true rfl⟩ dX8_faultsOf_20 (fun H locs hM hS => ?_)
    refine lv_aload_n hx hb dX8_faultsOf_23 rfl (lv_at hl 0 rfl) ?_
    refine gg_60_0 hx hb hown E hM hk_60 kw_1242 dX8_faultsOf_24 ?_
    refine lv_iconst (v := (2 : Int32)) hx hb dX8_faultsOf_27 (by decide) ?_
    obtain ⟨c6, h⟩ := gchk_e h
    refine g_iald hx hb E hM hk_61 dd_61 c6 dX8_faultsOf_28 ?_
    refine lv_i2l (v := (gi q2.2 61 (2 : Int32).toNatClampNeg).toInt64) hx hb dX8_faultsOf_29 rfl ?_
    refine W.lcmp hx hb dX8_faultsOf_30 ?_
    refine lv_if_le (tgt := 40) hx hb dX8_faultsOf_31 (by decide) (fun c7 => ?_) (fun c7 => ?_)
    · replace c7 := (lg_cmp_le _ _).mp c7
      replace h := gif_t c7 h
      refine lv_iconst (v := (0 : Int32)) hx hb dX8_faultsOf_40 (by decide) ?_
      exact wj_X8_faultsOf_41 h F E hM hS hl
    · replace c7 := fun w => c7 ((lg_cmp_le _ _).mpr w)
      replace h := gif_f c7 h
      refine lv_sipush (v := (1000 : Int32)) hx hb dX8_faultsOf_34 (by decide) ?_
      refine lv_goto (tgt := 41) hx hb dX8_faultsOf_37 (by decide) ?_
      exact wj_X8_faultsOf_41 h F E hM hS hl
  · replace h := gif_f c3 h
    refine lv_iconst (v := (0 : Int32)) hx hb dX8_faultsOf_12 (by decide) ?_
    obtain rfl := Option.some.inj h
    exact g_iret hx hb hr hlocks hM hS dX8_faultsOf_13
