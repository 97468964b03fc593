theorem dX5_spread_0 : decode cX5_spread 0 = .ok (.aload_n 0, 1) := by decide +kernel
theorem dX5_spread_1 : decode cX5_spread 1 = .ok (.getfield 9, 3) := by decide +kernel
theorem dX5_spread_4 : decode cX5_spread 4 = .ok (.iload_n 3, 1) := by decide +kernel
theorem dX5_spread_5 : decode cX5_spread 5 = .ok (.iload_n 3, 1) := by decide +kernel
theorem dX5_spread_6 : decode cX5_spread 6 = .ok (.iastore, 1) := by decide +kernel
theorem dX5_spread_7 : decode cX5_spread 7 = .ok (.aload_n 0, 1) := by decide +kernel
theorem dX5_spread_8 : decode cX5_spread 8 = .ok (.getfield 15, 3) := by decide +kernel
theorem dX5_spread_11 : decode cX5_spread 11 = .ok (.iload_n 3, 1) := by decide +kernel
theorem dX5_spread_12 : decode cX5_spread 12 = .ok (.iconst (-1), 1) := by decide +kernel
theorem dX5_spread_13 : decode cX5_spread 13 = .ok (.iastore, 1) := by decide +kernel
theorem dX5_spread_14 : decode cX5_spread 14 = .ok (.aload_n 0, 1) := by decide +kernel
theorem dX5_spread_15 : decode cX5_spread 15 = .ok (.getfield 18, 3) := by decide +kernel
theorem dX5_spread_18 : decode cX5_spread 18 = .ok (.iload_n 3, 1) := by decide +kernel
theorem dX5_spread_19 : decode cX5_spread 19 = .ok (.iload_n 3, 1) := by decide +kernel
theorem dX5_spread_20 : decode cX5_spread 20 = .ok (.iastore, 1) := by decide +kernel
theorem dX5_spread_21 : decode cX5_spread 21 = .ok (.aload_n 0, 1) := by decide +kernel
theorem dX5_spread_22 : decode cX5_spread 22 = .ok (.getfield 21, 3) := by decide +kernel
theorem dX5_spread_25 : decode cX5_spread 25 = .ok (.iload_n 3, 1) := by decide +kernel
theorem dX5_spread_26 : decode cX5_spread 26 = .ok (.iconst 0, 1) := by decide +kernel
theorem dX5_spread_27 : decode cX5_spread 27 = .ok (.iastore, 1) := by decide +kernel
theorem dX5_spread_28 : decode cX5_spread 28 = .ok (.aload_n 0, 1) := by decide +kernel
theorem dX5_spread_29 : decode cX5_spread 29 = .ok (.getfield 24, 3) := by decide +kernel
theorem dX5_spread_32 : decode cX5_spread 32 = .ok (.iconst 0, 1) := by decide +kernel
theorem dX5_spread_33 : decode cX5_spread 33 = .ok (.iload_n 3, 1) := by decide +kernel
theorem dX5_spread_34 : decode cX5_spread 34 = .ok (.iastore, 1) := by decide +kernel
theorem dX5_spread_35 : decode cX5_spread 35 = .ok (.iconst 1, 1) := by decide +kernel
theorem dX5_spread_36 : decode cX5_spread 36 = .ok (.istore 4, 2) := by decide +kernel
theorem dX5_spread_38 : decode cX5_spread 38 = .ok (.iconst 0, 1) := by decide +kernel
theorem dX5_spread_39 : decode cX5_spread 39 = .ok (.istore 5, 2) := by decide +kernel
theorem dX5_spread_41 : decode cX5_spread 41 = .ok (.iload 5, 2) := by decide +kernel
theorem dX5_spread_43 : decode cX5_spread 43 = .ok (.aload_n 1, 1) := by decide +kernel
theorem dX5_spread_44 : decode cX5_spread 44 = .ok (.getfield 34, 3) := by decide +kernel
theorem dX5_spread_47 : decode cX5_spread 47 = .ok (.if_icmp .ge 145, 3) := by decide +kernel
theorem dX5_spread_50 : decode cX5_spread 50 = .ok (.iload 5, 2) := by decide +kernel
theorem dX5_spread_52 : decode cX5_spread 52 = .ok (.iload 4, 2) := by decide +kernel
theorem dX5_spread_54 : decode cX5_spread 54 = .ok (.if_icmp .ge 138, 3) := by decide +kernel
theorem dX5_spread_57 : decode cX5_spread 57 = .ok (.aload_n 0, 1) := by decide +kernel
theorem dX5_spread_58 : decode cX5_spread 58 = .ok (.getfield 24, 3) := by decide +kernel
theorem dX5_spread_61 : decode cX5_spread 61 = .ok (.iload 5, 2) := by decide +kernel
theorem dX5_spread_63 : decode cX5_spread 63 = .ok (.iaload, 1) := by decide +kernel
theorem dX5_spread_64 : decode cX5_spread 64 = .ok (.istore 6, 2) := by decide +kernel
theorem dX5_spread_66 : decode cX5_spread 66 = .ok (.iconst 0, 1) := by decide +kernel
theorem dX5_spread_67 : decode cX5_spread 67 = .ok (.istore 7, 2) := by decide +kernel
theorem dX5_spread_69 : decode cX5_spread 69 = .ok (.iload 7, 2) := by decide +kernel
theorem dX5_spread_71 : decode cX5_spread 71 = .ok (.aload_n 1, 1) := by decide +kernel
theorem dX5_spread_72 : decode cX5_spread 72 = .ok (.getfield 43, 3) := by decide +kernel
theorem dX5_spread_75 : decode cX5_spread 75 = .ok (.if_icmp .ge 111, 3) := by decide +kernel
theorem dX5_spread_78 : decode cX5_spread 78 = .ok (.aload_n 1, 1) := by decide +kernel
theorem dX5_spread_79 : decode cX5_spread 79 = .ok (.iload_n 2, 1) := by decide +kernel
theorem dX5_spread_80 : decode cX5_spread 80 = .ok (.iload 7, 2) := by decide +kernel
theorem dX5_spread_82 : decode cX5_spread 82 = .ok (.iload 6, 2) := by decide +kernel
theorem dX5_spread_84 : decode cX5_spread 84 = .ok (.invokevirtual 46, 3) := by decide +kernel
theorem dX5_spread_87 : decode cX5_spread 87 = .ok (.istore 8, 2) := by decide +kernel
theorem dX5_spread_89 : decode cX5_spread 89 = .ok (.iload 8, 2) := by decide +kernel
theorem dX5_spread_91 : decode cX5_spread 91 = .ok (.iconst (-1), 1) := by decide +kernel
theorem dX5_spread_92 : decode cX5_spread 92 = .ok (.if_icmp .eq 88, 3) := by decide +kernel
theorem dX5_spread_95 : decode cX5_spread 95 = .ok (.aload_n 0, 1) := by decide +kernel
theorem dX5_spread_96 : decode cX5_spread 96 = .ok (.getfield 9, 3) := by decide +kernel
theorem dX5_spread_99 : decode cX5_spread 99 = .ok (.iload 8, 2) := by decide +kernel
theorem dX5_spread_101 : decode cX5_spread 101 = .ok (.iaload, 1) := by decide +kernel
theorem dX5_spread_102 : decode cX5_spread 102 = .ok (.iconst (-1), 1) := by decide +kernel
theorem dX5_spread_103 : decode cX5_spread 103 = .ok (.if_icmp .ne 77, 3) := by decide +kernel
theorem dX5_spread_106 : decode cX5_spread 106 = .ok (.iload 4, 2) := by decide +kernel
theorem dX5_spread_108 : decode cX5_spread 108 = .ok (.bipush 16, 2) := by decide +kernel
theorem dX5_spread_110 : decode cX5_spread 110 = .ok (.if_icmp .ge 70, 3) := by decide +kernel
theorem dX5_spread_113 : decode cX5_spread 113 = .ok (.aload_n 0, 1) := by decide +kernel
theorem dX5_spread_114 : decode cX5_spread 114 = .ok (.dup, 1) := by decide +kernel
theorem dX5_spread_115 : decode cX5_spread 115 = .ok (.getfield 27, 3) := by decide +kernel
theorem dX5_spread_118 : decode cX5_spread 118 = .ok (.iconst 1, 1) := by decide +kernel
theorem dX5_spread_119 : decode cX5_spread 119 = .ok (.iload 7, 2) := by decide +kernel
theorem dX5_spread_121 : decode cX5_spread 121 = .ok (.ishl, 1) := by decide +kernel
theorem dX5_spread_122 : decode cX5_spread 122 = .ok (.ior, 1) := by decide +kernel
theorem dX5_spread_123 : decode cX5_spread 123 = .ok (.putfield 27, 3) := by decide +kernel
theorem dX5_spread_126 : decode cX5_spread 126 = .ok (.aload_n 0, 1) := by decide +kernel
theorem dX5_spread_127 : decode cX5_spread 127 = .ok (.getfield 9, 3) := by decide +kernel
theorem dX5_spread_130 : decode cX5_spread 130 = .ok (.iload 8, 2) := by decide +kernel
theorem dX5_spread_132 : decode cX5_spread 132 = .ok (.iload_n 3, 1) := by decide +kernel
theorem dX5_spread_133 : decode cX5_spread 133 = .ok (.iastore, 1) := by decide +kernel
theorem dX5_spread_134 : decode cX5_spread 134 = .ok (.aload_n 0, 1) := by decide +kernel
theorem dX5_spread_135 : decode cX5_spread 135 = .ok (.getfield 15, 3) := by decide +kernel
theorem dX5_spread_138 : decode cX5_spread 138 = .ok (.iload 8, 2) := by decide +kernel
theorem dX5_spread_140 : decode cX5_spread 140 = .ok (.iload 7, 2) := by decide +kernel
theorem dX5_spread_142 : decode cX5_spread 142 = .ok (.iastore, 1) := by decide +kernel
theorem dX5_spread_143 : decode cX5_spread 143 = .ok (.aload_n 0, 1) := by decide +kernel
theorem dX5_spread_144 : decode cX5_spread 144 = .ok (.getfield 18, 3) := by decide +kernel
theorem dX5_spread_147 : decode cX5_spread 147 = .ok (.iload 8, 2) := by decide +kernel
theorem dX5_spread_149 : decode cX5_spread 149 = .ok (.iload 6, 2) := by decide +kernel
theorem dX5_spread_151 : decode cX5_spread 151 = .ok (.iastore, 1) := by decide +kernel
theorem dX5_spread_152 : decode cX5_spread 152 = .ok (.aload_n 0, 1) := by decide +kernel
theorem dX5_spread_153 : decode cX5_spread 153 = .ok (.getfield 21, 3) := by decide +kernel
theorem dX5_spread_156 : decode cX5_spread 156 = .ok (.iload 8, 2) := by decide +kernel
theorem dX5_spread_158 : decode cX5_spread 158 = .ok (.aload_n 0, 1) := by decide +kernel
theorem dX5_spread_159 : decode cX5_spread 159 = .ok (.getfield 21, 3) := by decide +kernel
theorem dX5_spread_162 : decode cX5_spread 162 = .ok (.iload 6, 2) := by decide +kernel
theorem dX5_spread_164 : decode cX5_spread 164 = .ok (.iaload, 1) := by decide +kernel
theorem dX5_spread_165 : decode cX5_spread 165 = .ok (.iconst 1, 1) := by decide +kernel
theorem dX5_spread_166 : decode cX5_spread 166 = .ok (.iadd, 1) := by decide +kernel
theorem dX5_spread_167 : decode cX5_spread 167 = .ok (.iastore, 1) := by decide +kernel
theorem dX5_spread_168 : decode cX5_spread 168 = .ok (.aload_n 0, 1) := by decide +kernel
theorem dX5_spread_169 : decode cX5_spread 169 = .ok (.getfield 24, 3) := by decide +kernel
theorem dX5_spread_172 : decode cX5_spread 172 = .ok (.iload 4, 2) := by decide +kernel
theorem dX5_spread_174 : decode cX5_spread 174 = .ok (.iload 8, 2) := by decide +kernel
theorem dX5_spread_176 : decode cX5_spread 176 = .ok (.iastore, 1) := by decide +kernel
theorem dX5_spread_177 : decode cX5_spread 177 = .ok (.iinc 4 1, 3) := by decide +kernel
theorem dX5_spread_180 : decode cX5_spread 180 = .ok (.iinc 7 1, 3) := by decide +kernel
theorem dX5_spread_183 : decode cX5_spread 183 = .ok (.goto (-114), 3) := by decide +kernel
theorem dX5_spread_186 : decode cX5_spread 186 = .ok (.iinc 5 1, 3) := by decide +kernel
theorem dX5_spread_189 : decode cX5_spread 189 = .ok (.goto (-148), 3) := by decide +kernel
theorem dX5_spread_192 : decode cX5_spread 192 = .ok (.return_, 1) := by decide +kernel
theorem dX5_grow_0 : decode cX5_grow 0 = .ok (.aload_n 0, 1) := by decide +kernel
theorem dX5_grow_1 : decode cX5_grow 1 = .ok (.iconst 0, 1) := by decide +kernel
theorem dX5_grow_2 : decode cX5_grow 2 = .ok (.putfield 27, 3) := by decide +kernel
theorem dX5_grow_5 : decode cX5_grow 5 = .ok (.aload_n 0, 1) := by decide +kernel
theorem dX5_grow_6 : decode cX5_grow 6 = .ok (.iconst 0, 1) := by decide +kernel
theorem dX5_grow_7 : decode cX5_grow 7 = .ok (.putfield 31, 3) := by decide +kernel
theorem dX5_grow_10 : decode cX5_grow 10 = .ok (.iconst 0, 1) := by decide +kernel
theorem dX5_grow_11 : decode cX5_grow 11 = .ok (.istore_n 3, 1) := by decide +kernel
theorem dX5_grow_12 : decode cX5_grow 12 = .ok (.iload_n 3, 1) := by decide +kernel
theorem dX5_grow_13 : decode cX5_grow 13 = .ok (.aload_n 1, 1) := by decide +kernel
theorem dX5_grow_14 : decode cX5_grow 14 = .ok (.getfield 34, 3) := by decide +kernel
theorem dX5_grow_17 : decode cX5_grow 17 = .ok (.if_icmp .ge 16, 3) := by decide +kernel
theorem dX5_grow_20 : decode cX5_grow 20 = .ok (.aload_n 0, 1) := by decide +kernel
theorem dX5_grow_21 : decode cX5_grow 21 = .ok (.getfield 9, 3) := by decide +kernel
theorem dX5_grow_24 : decode cX5_grow 24 = .ok (.iload_n 3, 1) := by decide +kernel
theorem dX5_grow_25 : decode cX5_grow 25 = .ok (.iconst (-1), 1) := by decide +kernel
theorem dX5_grow_26 : decode cX5_grow 26 = .ok (.iastore, 1) := by decide +kernel
theorem dX5_grow_27 : decode cX5_grow 27 = .ok (.iinc 3 1, 3) := by decide +kernel
theorem dX5_grow_30 : decode cX5_grow 30 = .ok (.goto (-18), 3) := by decide +kernel
theorem dX5_grow_33 : decode cX5_grow 33 = .ok (.iconst 0, 1) := by decide +kernel
theorem dX5_grow_34 : decode cX5_grow 34 = .ok (.istore_n 3, 1) := by decide +kernel
theorem dX5_grow_35 : decode cX5_grow 35 = .ok (.iload_n 3, 1) := by decide +kernel
theorem dX5_grow_36 : decode cX5_grow 36 = .ok (.aload_n 1, 1) := by decide +kernel
theorem dX5_grow_37 : decode cX5_grow 37 = .ok (.getfield 34, 3) := by decide +kernel
theorem dX5_grow_40 : decode cX5_grow 40 = .ok (.if_icmp .ge 36, 3) := by decide +kernel
theorem dX5_grow_43 : decode cX5_grow 43 = .ok (.aload_n 0, 1) := by decide +kernel
theorem dX5_grow_44 : decode cX5_grow 44 = .ok (.getfield 9, 3) := by decide +kernel
theorem dX5_grow_47 : decode cX5_grow 47 = .ok (.iload_n 3, 1) := by decide +kernel
theorem dX5_grow_48 : decode cX5_grow 48 = .ok (.iaload, 1) := by decide +kernel
theorem dX5_grow_49 : decode cX5_grow 49 = .ok (.iconst (-1), 1) := by decide +kernel
theorem dX5_grow_50 : decode cX5_grow 50 = .ok (.if_icmp .ne 20, 3) := by decide +kernel
theorem dX5_grow_53 : decode cX5_grow 53 = .ok (.aload_n 0, 1) := by decide +kernel
theorem dX5_grow_54 : decode cX5_grow 54 = .ok (.dup, 1) := by decide +kernel
theorem dX5_grow_55 : decode cX5_grow 55 = .ok (.getfield 31, 3) := by decide +kernel
theorem dX5_grow_58 : decode cX5_grow 58 = .ok (.iconst 1, 1) := by decide +kernel
theorem dX5_grow_59 : decode cX5_grow 59 = .ok (.iadd, 1) := by decide +kernel
theorem dX5_grow_60 : decode cX5_grow 60 = .ok (.putfield 31, 3) := by decide +kernel
theorem dX5_grow_63 : decode cX5_grow 63 = .ok (.aload_n 0, 1) := by decide +kernel
theorem dX5_grow_64 : decode cX5_grow 64 = .ok (.aload_n 1, 1) := by decide +kernel
theorem dX5_grow_65 : decode cX5_grow 65 = .ok (.iload_n 2, 1) := by decide +kernel
theorem dX5_grow_66 : decode cX5_grow 66 = .ok (.iload_n 3, 1) := by decide +kernel
theorem dX5_grow_67 : decode cX5_grow 67 = .ok (.invokevirtual 39, 3) := by decide +kernel
theorem dX5_grow_70 : decode cX5_grow 70 = .ok (.iinc 3 1, 3) := by decide +kernel
theorem dX5_grow_73 : decode cX5_grow 73 = .ok (.goto (-38), 3) := by decide +kernel
theorem dX5_grow_76 : decode cX5_grow 76 = .ok (.return_, 1) := by decide +kernel
theorem dX2_stepFrom_0 : decode cX2_stepFrom 0 = .ok (.aload_n 1, 1) := by decide +kernel
theorem dX2_stepFrom_1 : decode cX2_stepFrom 1 = .ok (.getfield 68, 3) := by decide +kernel
theorem dX2_stepFrom_4 : decode cX2_stepFrom 4 = .ok (.iload_n 2, 1) := by decide +kernel
theorem dX2_stepFrom_5 : decode cX2_stepFrom 5 = .ok (.iaload, 1) := by decide +kernel
theorem dX2_stepFrom_6 : decode cX2_stepFrom 6 = .ok (.iload_n 3, 1) := by decide +kernel
theorem dX2_stepFrom_7 : decode cX2_stepFrom 7 = .ok (.if_icmp .ne 7, 3) := by decide +kernel
theorem dX2_stepFrom_10 : decode cX2_stepFrom 10 = .ok (.iload_n 2, 1) := by decide +kernel
theorem dX2_stepFrom_11 : decode cX2_stepFrom 11 = .ok (.goto 7, 3) := by decide +kernel
theorem dX2_stepFrom_14 : decode cX2_stepFrom 14 = .ok (.iload_n 2, 1) := by decide +kernel
theorem dX2_stepFrom_15 : decode cX2_stepFrom 15 = .ok (.bipush 100, 2) := by decide +kernel
theorem dX2_stepFrom_17 : decode cX2_stepFrom 17 = .ok (.iadd, 1) := by decide +kernel
theorem dX2_stepFrom_18 : decode cX2_stepFrom 18 = .ok (.ireturn, 1) := by decide +kernel
theorem dX2_walk_0 : decode cX2_walk 0 = .ok (.aload_n 0, 1) := by decide +kernel
theorem dX2_walk_1 : decode cX2_walk 1 = .ok (.getfield 34, 3) := by decide +kernel
theorem dX2_walk_4 : decode cX2_walk 4 = .ok (.iconst 0, 1) := by decide +kernel
theorem dX2_walk_5 : decode cX2_walk 5 = .ok (.iload_n 2, 1) := by decide +kernel
theorem dX2_walk_6 : decode cX2_walk 6 = .ok (.iastore, 1) := by decide +kernel
theorem dX2_walk_7 : decode cX2_walk 7 = .ok (.aload_n 0, 1) := by decide +kernel
theorem dX2_walk_8 : decode cX2_walk 8 = .ok (.iconst 1, 1) := by decide +kernel
theorem dX2_walk_9 : decode cX2_walk 9 = .ok (.putfield 62, 3) := by decide +kernel
theorem dX2_walk_12 : decode cX2_walk 12 = .ok (.iconst 0, 1) := by decide +kernel
theorem dX2_walk_13 : decode cX2_walk 13 = .ok (.istore_n 3, 1) := by decide +kernel
theorem dX2_walk_14 : decode cX2_walk 14 = .ok (.aload_n 1, 1) := by decide +kernel
theorem dX2_walk_15 : decode cX2_walk 15 = .ok (.getfield 65, 3) := by decide +kernel
theorem dX2_walk_18 : decode cX2_walk 18 = .ok (.iload_n 2, 1) := by decide +kernel
theorem dX2_walk_19 : decode cX2_walk 19 = .ok (.iaload, 1) := by decide +kernel
theorem dX2_walk_20 : decode cX2_walk 20 = .ok (.istore 4, 2) := by decide +kernel
theorem dX2_walk_22 : decode cX2_walk 22 = .ok (.aload_n 1, 1) := by decide +kernel
theorem dX2_walk_23 : decode cX2_walk 23 = .ok (.getfield 68, 3) := by decide +kernel
theorem dX2_walk_26 : decode cX2_walk 26 = .ok (.iload_n 2, 1) := by decide +kernel
theorem dX2_walk_27 : decode cX2_walk 27 = .ok (.iaload, 1) := by decide +kernel
theorem dX2_walk_28 : decode cX2_walk 28 = .ok (.istore 5, 2) := by decide +kernel
theorem dX2_walk_30 : decode cX2_walk 30 = .ok (.iconst 0, 1) := by decide +kernel
theorem dX2_walk_31 : decode cX2_walk 31 = .ok (.istore 6, 2) := by decide +kernel
theorem dX2_walk_33 : decode cX2_walk 33 = .ok (.iload 6, 2) := by decide +kernel
theorem dX2_walk_35 : decode cX2_walk 35 = .ok (.bipush 16, 2) := by decide +kernel
theorem dX2_walk_37 : decode cX2_walk 37 = .ok (.if_icmp .ge 155, 3) := by decide +kernel
theorem dX2_walk_40 : decode cX2_walk 40 = .ok (.iload 4, 2) := by decide +kernel
theorem dX2_walk_42 : decode cX2_walk 42 = .ok (.iload 5, 2) := by decide +kernel
theorem dX2_walk_44 : decode cX2_walk 44 = .ok (.if_icmp .eq 148, 3) := by decide +kernel
theorem dX2_walk_47 : decode cX2_walk 47 = .ok (.aload_n 0, 1) := by decide +kernel
theorem dX2_walk_48 : decode cX2_walk 48 = .ok (.getfield 12, 3) := by decide +kernel
theorem dX2_walk_51 : decode cX2_walk 51 = .ok (.getfield 71, 3) := by decide +kernel
theorem dX2_walk_54 : decode cX2_walk 54 = .ok (.iload 4, 2) := by decide +kernel
theorem dX2_walk_56 : decode cX2_walk 56 = .ok (.iaload, 1) := by decide +kernel
theorem dX2_walk_57 : decode cX2_walk 57 = .ok (.aload_n 0, 1) := by decide +kernel
theorem dX2_walk_58 : decode cX2_walk 58 = .ok (.getfield 12, 3) := by decide +kernel
theorem dX2_walk_61 : decode cX2_walk 61 = .ok (.getfield 71, 3) := by decide +kernel
theorem dX2_walk_64 : decode cX2_walk 64 = .ok (.iload 5, 2) := by decide +kernel
theorem dX2_walk_66 : decode cX2_walk 66 = .ok (.iaload, 1) := by decide +kernel
theorem dX2_walk_67 : decode cX2_walk 67 = .ok (.if_icmp .lt 7, 3) := by decide +kernel
theorem dX2_walk_70 : decode cX2_walk 70 = .ok (.iconst 1, 1) := by decide +kernel
theorem dX2_walk_71 : decode cX2_walk 71 = .ok (.goto 4, 3) := by decide +kernel
theorem dX2_walk_74 : decode cX2_walk 74 = .ok (.iconst 0, 1) := by decide +kernel
theorem dX2_walk_75 : decode cX2_walk 75 = .ok (.istore 7, 2) := by decide +kernel
theorem dX2_walk_77 : decode cX2_walk 77 = .ok (.iload 7, 2) := by decide +kernel
theorem dX2_walk_79 : decode cX2_walk 79 = .ok (.ifCond .eq 8, 3) := by decide +kernel
theorem dX2_walk_82 : decode cX2_walk 82 = .ok (.iload 4, 2) := by decide +kernel
theorem dX2_walk_84 : decode cX2_walk 84 = .ok (.goto 5, 3) := by decide +kernel
theorem dX2_walk_87 : decode cX2_walk 87 = .ok (.iload 5, 2) := by decide +kernel
theorem dX2_walk_89 : decode cX2_walk 89 = .ok (.istore 8, 2) := by decide +kernel
theorem dX2_walk_91 : decode cX2_walk 91 = .ok (.aload_n 0, 1) := by decide +kernel
theorem dX2_walk_92 : decode cX2_walk 92 = .ok (.getfield 12, 3) := by decide +kernel
theorem dX2_walk_95 : decode cX2_walk 95 = .ok (.getfield 74, 3) := by decide +kernel
theorem dX2_walk_98 : decode cX2_walk 98 = .ok (.iload 8, 2) := by decide +kernel
theorem dX2_walk_100 : decode cX2_walk 100 = .ok (.iaload, 1) := by decide +kernel
theorem dX2_walk_101 : decode cX2_walk 101 = .ok (.istore 9, 2) := by decide +kernel
theorem dX2_walk_103 : decode cX2_walk 103 = .ok (.aload_n 0, 1) := by decide +kernel
theorem dX2_walk_104 : decode cX2_walk 104 = .ok (.getfield 12, 3) := by decide +kernel
theorem dX2_walk_107 : decode cX2_walk 107 = .ok (.getfield 77, 3) := by decide +kernel
theorem dX2_walk_110 : decode cX2_walk 110 = .ok (.iload 8, 2) := by decide +kernel
theorem dX2_walk_112 : decode cX2_walk 112 = .ok (.iaload, 1) := by decide +kernel
theorem dX2_walk_113 : decode cX2_walk 113 = .ok (.istore 10, 2) := by decide +kernel
theorem dX2_walk_115 : decode cX2_walk 115 = .ok (.iload 10, 2) := by decide +kernel
theorem dX2_walk_117 : decode cX2_walk 117 = .ok (.iconst (-1), 1) := by decide +kernel
theorem dX2_walk_118 : decode cX2_walk 118 = .ok (.if_icmp .ne 6, 3) := by decide +kernel
theorem dX2_walk_121 : decode cX2_walk 121 = .ok (.goto 71, 3) := by decide +kernel
theorem dX2_walk_124 : decode cX2_walk 124 = .ok (.iload 7, 2) := by decide +kernel
theorem dX2_walk_126 : decode cX2_walk 126 = .ok (.ifCond .eq 38, 3) := by decide +kernel
theorem dX2_walk_129 : decode cX2_walk 129 = .ok (.aload_n 0, 1) := by decide +kernel
theorem dX2_walk_130 : decode cX2_walk 130 = .ok (.getfield 34, 3) := by decide +kernel
theorem dX2_walk_133 : decode cX2_walk 133 = .ok (.aload_n 0, 1) := by decide +kernel
theorem dX2_walk_134 : decode cX2_walk 134 = .ok (.getfield 62, 3) := by decide +kernel
theorem dX2_walk_137 : decode cX2_walk 137 = .ok (.aload_n 0, 1) := by decide +kernel
theorem dX2_walk_138 : decode cX2_walk 138 = .ok (.aload_n 1, 1) := by decide +kernel
theorem dX2_walk_139 : decode cX2_walk 139 = .ok (.iload 10, 2) := by decide +kernel
theorem dX2_walk_141 : decode cX2_walk 141 = .ok (.iload 4, 2) := by decide +kernel
theorem dX2_walk_143 : decode cX2_walk 143 = .ok (.invokevirtual 80, 3) := by decide +kernel
theorem dX2_walk_146 : decode cX2_walk 146 = .ok (.iastore, 1) := by decide +kernel
theorem dX2_walk_147 : decode cX2_walk 147 = .ok (.aload_n 0, 1) := by decide +kernel
theorem dX2_walk_148 : decode cX2_walk 148 = .ok (.dup, 1) := by decide +kernel
theorem dX2_walk_149 : decode cX2_walk 149 = .ok (.getfield 62, 3) := by decide +kernel
theorem dX2_walk_152 : decode cX2_walk 152 = .ok (.iconst 1, 1) := by decide +kernel
theorem dX2_walk_153 : decode cX2_walk 153 = .ok (.iadd, 1) := by decide +kernel
theorem dX2_walk_154 : decode cX2_walk 154 = .ok (.putfield 62, 3) := by decide +kernel
theorem dX2_walk_157 : decode cX2_walk 157 = .ok (.iload 9, 2) := by decide +kernel
theorem dX2_walk_159 : decode cX2_walk 159 = .ok (.istore 4, 2) := by decide +kernel
theorem dX2_walk_161 : decode cX2_walk 161 = .ok (.goto 25, 3) := by decide +kernel
theorem dX2_walk_164 : decode cX2_walk 164 = .ok (.aload_n 0, 1) := by decide +kernel
theorem dX2_walk_165 : decode cX2_walk 165 = .ok (.getfield 37, 3) := by decide +kernel
theorem dX2_walk_168 : decode cX2_walk 168 = .ok (.iload_n 3, 1) := by decide +kernel
theorem dX2_walk_169 : decode cX2_walk 169 = .ok (.aload_n 0, 1) := by decide +kernel
theorem dX2_walk_170 : decode cX2_walk 170 = .ok (.aload_n 1, 1) := by decide +kernel
theorem dX2_walk_171 : decode cX2_walk 171 = .ok (.iload 10, 2) := by decide +kernel
theorem dX2_walk_173 : decode cX2_walk 173 = .ok (.iload 9, 2) := by decide +kernel
theorem dX2_walk_175 : decode cX2_walk 175 = .ok (.invokevirtual 80, 3) := by decide +kernel
theorem dX2_walk_178 : decode cX2_walk 178 = .ok (.iastore, 1) := by decide +kernel
theorem dX2_walk_179 : decode cX2_walk 179 = .ok (.iinc 3 1, 3) := by decide +kernel
theorem dX2_walk_182 : decode cX2_walk 182 = .ok (.iload 9, 2) := by decide +kernel
theorem dX2_walk_184 : decode cX2_walk 184 = .ok (.istore 5, 2) := by decide +kernel
theorem dX2_walk_186 : decode cX2_walk 186 = .ok (.iinc 6 1, 3) := by decide +kernel
theorem dX2_walk_189 : decode cX2_walk 189 = .ok (.goto (-156), 3) := by decide +kernel
theorem dX2_walk_192 : decode cX2_walk 192 = .ok (.iload_n 3, 1) := by decide +kernel
theorem dX2_walk_193 : decode cX2_walk 193 = .ok (.iconst 1, 1) := by decide +kernel
theorem dX2_walk_194 : decode cX2_walk 194 = .ok (.isub, 1) := by decide +kernel
theorem dX2_walk_195 : decode cX2_walk 195 = .ok (.istore 6, 2) := by decide +kernel
theorem dX2_walk_197 : decode cX2_walk 197 = .ok (.iload 6, 2) := by decide +kernel
theorem dX2_walk_199 : decode cX2_walk 199 = .ok (.ifCond .lt 35, 3) := by decide +kernel
theorem dX2_walk_202 : decode cX2_walk 202 = .ok (.aload_n 0, 1) := by decide +kernel
theorem dX2_walk_203 : decode cX2_walk 203 = .ok (.getfield 34, 3) := by decide +kernel
theorem dX2_walk_206 : decode cX2_walk 206 = .ok (.aload_n 0, 1) := by decide +kernel
theorem dX2_walk_207 : decode cX2_walk 207 = .ok (.getfield 62, 3) := by decide +kernel
theorem dX2_walk_210 : decode cX2_walk 210 = .ok (.aload_n 0, 1) := by decide +kernel
theorem dX2_walk_211 : decode cX2_walk 211 = .ok (.getfield 37, 3) := by decide +kernel
theorem dX2_walk_214 : decode cX2_walk 214 = .ok (.iload 6, 2) := by decide +kernel
theorem dX2_walk_216 : decode cX2_walk 216 = .ok (.iaload, 1) := by decide +kernel
theorem dX2_walk_217 : decode cX2_walk 217 = .ok (.iastore, 1) := by decide +kernel
theorem dX2_walk_218 : decode cX2_walk 218 = .ok (.aload_n 0, 1) := by decide +kernel
theorem dX2_walk_219 : decode cX2_walk 219 = .ok (.dup, 1) := by decide +kernel
theorem dX2_walk_220 : decode cX2_walk 220 = .ok (.getfield 62, 3) := by decide +kernel
theorem dX2_walk_223 : decode cX2_walk 223 = .ok (.iconst 1, 1) := by decide +kernel
theorem dX2_walk_224 : decode cX2_walk 224 = .ok (.iadd, 1) := by decide +kernel
theorem dX2_walk_225 : decode cX2_walk 225 = .ok (.putfield 62, 3) := by decide +kernel
theorem dX2_walk_228 : decode cX2_walk 228 = .ok (.iinc 6 (-1), 3) := by decide +kernel
theorem dX2_walk_231 : decode cX2_walk 231 = .ok (.goto (-34), 3) := by decide +kernel
theorem dX2_walk_234 : decode cX2_walk 234 = .ok (.return_, 1) := by decide +kernel
theorem dX2_rootOfSquare_0 : decode cX2_rootOfSquare 0 = .ok (.iconst 0, 1) := by decide +kernel
theorem dX2_rootOfSquare_1 : decode cX2_rootOfSquare 1 = .ok (.istore_n 2, 1) := by decide +kernel
theorem dX2_rootOfSquare_2 : decode cX2_rootOfSquare 2 = .ok (.ldc 100, 2) := by decide +kernel
theorem dX2_rootOfSquare_4 : decode cX2_rootOfSquare 4 = .ok (.istore_n 3, 1) := by decide +kernel
theorem dX2_rootOfSquare_5 : decode cX2_rootOfSquare 5 = .ok (.iload_n 3, 1) := by decide +kernel
theorem dX2_rootOfSquare_6 : decode cX2_rootOfSquare 6 = .ok (.ifCond .le 30, 3) := by decide +kernel
theorem dX2_rootOfSquare_9 : decode cX2_rootOfSquare 9 = .ok (.iload_n 2, 1) := by decide +kernel
theorem dX2_rootOfSquare_10 : decode cX2_rootOfSquare 10 = .ok (.iload_n 3, 1) := by decide +kernel
theorem dX2_rootOfSquare_11 : decode cX2_rootOfSquare 11 = .ok (.iadd, 1) := by decide +kernel
theorem dX2_rootOfSquare_12 : decode cX2_rootOfSquare 12 = .ok (.i2l, 1) := by decide +kernel
theorem dX2_rootOfSquare_13 : decode cX2_rootOfSquare 13 = .ok (.lstore 4, 2) := by decide +kernel
theorem dX2_rootOfSquare_15 : decode cX2_rootOfSquare 15 = .ok (.lload 4, 2) := by decide +kernel
theorem dX2_rootOfSquare_17 : decode cX2_rootOfSquare 17 = .ok (.lload 4, 2) := by decide +kernel
theorem dX2_rootOfSquare_19 : decode cX2_rootOfSquare 19 = .ok (.lmul, 1) := by decide +kernel
theorem dX2_rootOfSquare_20 : decode cX2_rootOfSquare 20 = .ok (.lload_n 0, 1) := by decide +kernel
theorem dX2_rootOfSquare_21 : decode cX2_rootOfSquare 21 = .ok (.lcmp, 1) := by decide +kernel
theorem dX2_rootOfSquare_22 : decode cX2_rootOfSquare 22 = .ok (.ifCond .gt 7, 3) := by decide +kernel
theorem dX2_rootOfSquare_25 : decode cX2_rootOfSquare 25 = .ok (.iload_n 2, 1) := by decide +kernel
theorem dX2_rootOfSquare_26 : decode cX2_rootOfSquare 26 = .ok (.iload_n 3, 1) := by decide +kernel
theorem dX2_rootOfSquare_27 : decode cX2_rootOfSquare 27 = .ok (.iadd, 1) := by decide +kernel
theorem dX2_rootOfSquare_28 : decode cX2_rootOfSquare 28 = .ok (.istore_n 2, 1) := by decide +kernel
theorem dX2_rootOfSquare_29 : decode cX2_rootOfSquare 29 = .ok (.iload_n 3, 1) := by decide +kernel
theorem dX2_rootOfSquare_30 : decode cX2_rootOfSquare 30 = .ok (.iconst 1, 1) := by decide +kernel
theorem dX2_rootOfSquare_31 : decode cX2_rootOfSquare 31 = .ok (.ishr, 1) := by decide +kernel
theorem dX2_rootOfSquare_32 : decode cX2_rootOfSquare 32 = .ok (.istore_n 3, 1) := by decide +kernel
theorem dX2_rootOfSquare_33 : decode cX2_rootOfSquare 33 = .ok (.goto (-28), 3) := by decide +kernel
theorem dX2_rootOfSquare_36 : decode cX2_rootOfSquare 36 = .ok (.iload_n 2, 1) := by decide +kernel
theorem dX2_rootOfSquare_37 : decode cX2_rootOfSquare 37 = .ok (.ireturn, 1) := by decide +kernel
theorem dX2_measureWay_0 : decode cX2_measureWay 0 = .ok (.iconst 0, 1) := by decide +kernel
theorem dX2_measureWay_1 : decode cX2_measureWay 1 = .ok (.istore_n 3, 1) := by decide +kernel
theorem dX2_measureWay_2 : decode cX2_measureWay 2 = .ok (.iconst 0, 1) := by decide +kernel
theorem dX2_measureWay_3 : decode cX2_measureWay 3 = .ok (.istore 4, 2) := by decide +kernel
theorem dX2_measureWay_5 : decode cX2_measureWay 5 = .ok (.iconst 0, 1) := by decide +kernel
theorem dX2_measureWay_6 : decode cX2_measureWay 6 = .ok (.istore 5, 2) := by decide +kernel
theorem dX2_measureWay_8 : decode cX2_measureWay 8 = .ok (.iconst 0, 1) := by decide +kernel
theorem dX2_measureWay_9 : decode cX2_measureWay 9 = .ok (.istore 6, 2) := by decide +kernel
theorem dX2_measureWay_11 : decode cX2_measureWay 11 = .ok (.iload 6, 2) := by decide +kernel
theorem dX2_measureWay_13 : decode cX2_measureWay 13 = .ok (.aload_n 0, 1) := by decide +kernel
theorem dX2_measureWay_14 : decode cX2_measureWay 14 = .ok (.getfield 62, 3) := by decide +kernel
theorem dX2_measureWay_17 : decode cX2_measureWay 17 = .ok (.if_icmp .ge 99, 3) := by decide +kernel
theorem dX2_measureWay_20 : decode cX2_measureWay 20 = .ok (.aload_n 0, 1) := by decide +kernel
theorem dX2_measureWay_21 : decode cX2_measureWay 21 = .ok (.getfield 34, 3) := by decide +kernel
theorem dX2_measureWay_24 : decode cX2_measureWay 24 = .ok (.iload 6, 2) := by decide +kernel
theorem dX2_measureWay_26 : decode cX2_measureWay 26 = .ok (.iaload, 1) := by decide +kernel
theorem dX2_measureWay_27 : decode cX2_measureWay 27 = .ok (.bipush 100, 2) := by decide +kernel
theorem dX2_measureWay_29 : decode cX2_measureWay 29 = .ok (.if_icmp .lt 7, 3) := by decide +kernel
theorem dX2_measureWay_32 : decode cX2_measureWay 32 = .ok (.iconst 1, 1) := by decide +kernel
theorem dX2_measureWay_33 : decode cX2_measureWay 33 = .ok (.goto 4, 3) := by decide +kernel
theorem dX2_measureWay_36 : decode cX2_measureWay 36 = .ok (.iconst 0, 1) := by decide +kernel
theorem dX2_measureWay_37 : decode cX2_measureWay 37 = .ok (.istore 7, 2) := by decide +kernel
theorem dX2_measureWay_39 : decode cX2_measureWay 39 = .ok (.iload 7, 2) := by decide +kernel
theorem dX2_measureWay_41 : decode cX2_measureWay 41 = .ok (.ifCond .eq 16, 3) := by decide +kernel
theorem dX2_measureWay_44 : decode cX2_measureWay 44 = .ok (.aload_n 0, 1) := by decide +kernel
theorem dX2_measureWay_45 : decode cX2_measureWay 45 = .ok (.getfield 34, 3) := by decide +kernel
theorem dX2_measureWay_48 : decode cX2_measureWay 48 = .ok (.iload 6, 2) := by decide +kernel
theorem dX2_measureWay_50 : decode cX2_measureWay 50 = .ok (.iaload, 1) := by decide +kernel
theorem dX2_measureWay_51 : decode cX2_measureWay 51 = .ok (.bipush 100, 2) := by decide +kernel
theorem dX2_measureWay_53 : decode cX2_measureWay 53 = .ok (.isub, 1) := by decide +kernel
theorem dX2_measureWay_54 : decode cX2_measureWay 54 = .ok (.goto 10, 3) := by decide +kernel
theorem dX2_measureWay_57 : decode cX2_measureWay 57 = .ok (.aload_n 0, 1) := by decide +kernel
theorem dX2_measureWay_58 : decode cX2_measureWay 58 = .ok (.getfield 34, 3) := by decide +kernel
theorem dX2_measureWay_61 : decode cX2_measureWay 61 = .ok (.iload 6, 2) := by decide +kernel
theorem dX2_measureWay_63 : decode cX2_measureWay 63 = .ok (.iaload, 1) := by decide +kernel
theorem dX2_measureWay_64 : decode cX2_measureWay 64 = .ok (.istore 8, 2) := by decide +kernel
theorem dX2_measureWay_66 : decode cX2_measureWay 66 = .ok (.iload_n 3, 1) := by decide +kernel
theorem dX2_measureWay_67 : decode cX2_measureWay 67 = .ok (.iconst 1, 1) := by decide +kernel
theorem dX2_measureWay_68 : decode cX2_measureWay 68 = .ok (.iload 8, 2) := by decide +kernel
theorem dX2_measureWay_70 : decode cX2_measureWay 70 = .ok (.ishl, 1) := by decide +kernel
theorem dX2_measureWay_71 : decode cX2_measureWay 71 = .ok (.ior, 1) := by decide +kernel
theorem dX2_measureWay_72 : decode cX2_measureWay 72 = .ok (.istore_n 3, 1) := by decide +kernel
theorem dX2_measureWay_73 : decode cX2_measureWay 73 = .ok (.iload 4, 2) := by decide +kernel
theorem dX2_measureWay_75 : decode cX2_measureWay 75 = .ok (.aload_n 1, 1) := by decide +kernel
theorem dX2_measureWay_76 : decode cX2_measureWay 76 = .ok (.iload 8, 2) := by decide +kernel
theorem dX2_measureWay_78 : decode cX2_measureWay 78 = .ok (.invokevirtual 84, 3) := by decide +kernel
theorem dX2_measureWay_81 : decode cX2_measureWay 81 = .ok (.iadd, 1) := by decide +kernel
theorem dX2_measureWay_82 : decode cX2_measureWay 82 = .ok (.istore 4, 2) := by decide +kernel
theorem dX2_measureWay_84 : decode cX2_measureWay 84 = .ok (.iload 5, 2) := by decide +kernel
theorem dX2_measureWay_86 : decode cX2_measureWay 86 = .ok (.iload 7, 2) := by decide +kernel
theorem dX2_measureWay_88 : decode cX2_measureWay 88 = .ok (.ifCond .eq 13, 3) := by decide +kernel
theorem dX2_measureWay_91 : decode cX2_measureWay 91 = .ok (.aload_n 1, 1) := by decide +kernel
theorem dX2_measureWay_92 : decode cX2_measureWay 92 = .ok (.iload 8, 2) := by decide +kernel
theorem dX2_measureWay_94 : decode cX2_measureWay 94 = .ok (.invokevirtual 88, 3) := by decide +kernel
theorem dX2_measureWay_97 : decode cX2_measureWay 97 = .ok (.ineg, 1) := by decide +kernel
theorem dX2_measureWay_98 : decode cX2_measureWay 98 = .ok (.goto 9, 3) := by decide +kernel
theorem dX2_measureWay_101 : decode cX2_measureWay 101 = .ok (.aload_n 1, 1) := by decide +kernel
theorem dX2_measureWay_102 : decode cX2_measureWay 102 = .ok (.iload 8, 2) := by decide +kernel
theorem dX2_measureWay_104 : decode cX2_measureWay 104 = .ok (.invokevirtual 88, 3) := by decide +kernel
theorem dX2_measureWay_107 : decode cX2_measureWay 107 = .ok (.iadd, 1) := by decide +kernel
theorem dX2_measureWay_108 : decode cX2_measureWay 108 = .ok (.istore 5, 2) := by decide +kernel
theorem dX2_measureWay_110 : decode cX2_measureWay 110 = .ok (.iinc 6 1, 3) := by decide +kernel
theorem dX2_measureWay_113 : decode cX2_measureWay 113 = .ok (.goto (-102), 3) := by decide +kernel
theorem dX2_measureWay_116 : decode cX2_measureWay 116 = .ok (.aload_n 1, 1) := by decide +kernel
theorem dX2_measureWay_117 : decode cX2_measureWay 117 = .ok (.getfield 91, 3) := by decide +kernel
theorem dX2_measureWay_120 : decode cX2_measureWay 120 = .ok (.iconst 0, 1) := by decide +kernel
theorem dX2_measureWay_121 : decode cX2_measureWay 121 = .ok (.iaload, 1) := by decide +kernel
theorem dX2_measureWay_122 : decode cX2_measureWay 122 = .ok (.i2l, 1) := by decide +kernel
theorem dX2_measureWay_123 : decode cX2_measureWay 123 = .ok (.lstore 6, 2) := by decide +kernel
theorem dX2_measureWay_125 : decode cX2_measureWay 125 = .ok (.aload_n 0, 1) := by decide +kernel
theorem dX2_measureWay_126 : decode cX2_measureWay 126 = .ok (.getfield 22, 3) := by decide +kernel
theorem dX2_measureWay_129 : decode cX2_measureWay 129 = .ok (.iload_n 2, 1) := by decide +kernel
theorem dX2_measureWay_130 : decode cX2_measureWay 130 = .ok (.iload_n 3, 1) := by decide +kernel
theorem dX2_measureWay_131 : decode cX2_measureWay 131 = .ok (.iastore, 1) := by decide +kernel
theorem dX2_measureWay_132 : decode cX2_measureWay 132 = .ok (.aload_n 0, 1) := by decide +kernel
theorem dX2_measureWay_133 : decode cX2_measureWay 133 = .ok (.getfield 25, 3) := by decide +kernel
theorem dX2_measureWay_136 : decode cX2_measureWay 136 = .ok (.iload_n 2, 1) := by decide +kernel
theorem dX2_measureWay_137 : decode cX2_measureWay 137 = .ok (.iload 4, 2) := by decide +kernel
theorem dX2_measureWay_139 : decode cX2_measureWay 139 = .ok (.iastore, 1) := by decide +kernel
theorem dX2_measureWay_140 : decode cX2_measureWay 140 = .ok (.aload_n 0, 1) := by decide +kernel
theorem dX2_measureWay_141 : decode cX2_measureWay 141 = .ok (.getfield 28, 3) := by decide +kernel
theorem dX2_measureWay_144 : decode cX2_measureWay 144 = .ok (.iload_n 2, 1) := by decide +kernel
theorem dX2_measureWay_145 : decode cX2_measureWay 145 = .ok (.iload 5, 2) := by decide +kernel
theorem dX2_measureWay_147 : decode cX2_measureWay 147 = .ok (.iastore, 1) := by decide +kernel
theorem dX2_measureWay_148 : decode cX2_measureWay 148 = .ok (.aload_n 0, 1) := by decide +kernel
theorem dX2_measureWay_149 : decode cX2_measureWay 149 = .ok (.getfield 31, 3) := by decide +kernel
theorem dX2_measureWay_152 : decode cX2_measureWay 152 = .ok (.iload_n 2, 1) := by decide +kernel
theorem dX2_measureWay_153 : decode cX2_measureWay 153 = .ok (.ldc2_w 94, 3) := by decide +kernel
theorem dX2_measureWay_156 : decode cX2_measureWay 156 = .ok (.lload 6, 2) := by decide +kernel
theorem dX2_measureWay_158 : decode cX2_measureWay 158 = .ok (.lmul, 1) := by decide +kernel
theorem dX2_measureWay_159 : decode cX2_measureWay 159 = .ok (.lload 6, 2) := by decide +kernel
theorem dX2_measureWay_161 : decode cX2_measureWay 161 = .ok (.lmul, 1) := by decide +kernel
theorem dX2_measureWay_162 : decode cX2_measureWay 162 = .ok (.iload 4, 2) := by decide +kernel
theorem dX2_measureWay_164 : decode cX2_measureWay 164 = .ok (.i2l, 1) := by decide +kernel
theorem dX2_measureWay_165 : decode cX2_measureWay 165 = .ok (.lmul, 1) := by decide +kernel
theorem dX2_measureWay_166 : decode cX2_measureWay 166 = .ok (.invokestatic 96, 3) := by decide +kernel
theorem dX2_measureWay_169 : decode cX2_measureWay 169 = .ok (.iastore, 1) := by decide +kernel
theorem dX2_measureWay_170 : decode cX2_measureWay 170 = .ok (.return_, 1) := by decide +kernel
theorem dX2_find_0 : decode cX2_find 0 = .ok (.aload_n 0, 1) := by decide +kernel
theorem dX2_find_1 : decode cX2_find 1 = .ok (.getfield 12, 3) := by decide +kernel
theorem dX2_find_4 : decode cX2_find 4 = .ok (.aload_n 1, 1) := by decide +kernel
theorem dX2_find_5 : decode cX2_find 5 = .ok (.iload_n 2, 1) := by decide +kernel
theorem dX2_find_6 : decode cX2_find 6 = .ok (.invokevirtual 40, 3) := by decide +kernel
theorem dX2_find_9 : decode cX2_find 9 = .ok (.aload_n 0, 1) := by decide +kernel
theorem dX2_find_10 : decode cX2_find 10 = .ok (.iconst 0, 1) := by decide +kernel
theorem dX2_find_11 : decode cX2_find 11 = .ok (.putfield 44, 3) := by decide +kernel
theorem dX2_find_14 : decode cX2_find 14 = .ok (.iload_n 2, 1) := by decide +kernel
theorem dX2_find_15 : decode cX2_find 15 = .ok (.aload_n 0, 1) := by decide +kernel
theorem dX2_find_16 : decode cX2_find 16 = .ok (.getfield 12, 3) := by decide +kernel
theorem dX2_find_19 : decode cX2_find 19 = .ok (.getfield 48, 3) := by decide +kernel
theorem dX2_find_22 : decode cX2_find 22 = .ok (.iconst (-1), 1) := by decide +kernel
theorem dX2_find_23 : decode cX2_find 23 = .ok (.ixor, 1) := by decide +kernel
theorem dX2_find_24 : decode cX2_find 24 = .ok (.iand, 1) := by decide +kernel
theorem dX2_find_25 : decode cX2_find 25 = .ok (.istore_n 3, 1) := by decide +kernel
theorem dX2_find_26 : decode cX2_find 26 = .ok (.iconst 0, 1) := by decide +kernel
theorem dX2_find_27 : decode cX2_find 27 = .ok (.istore 4, 2) := by decide +kernel
theorem dX2_find_29 : decode cX2_find 29 = .ok (.iload 4, 2) := by decide +kernel
theorem dX2_find_31 : decode cX2_find 31 = .ok (.aload_n 1, 1) := by decide +kernel
theorem dX2_find_32 : decode cX2_find 32 = .ok (.getfield 51, 3) := by decide +kernel
theorem dX2_find_35 : decode cX2_find 35 = .ok (.if_icmp .ge 56, 3) := by decide +kernel
theorem dX2_find_38 : decode cX2_find 38 = .ok (.iload_n 3, 1) := by decide +kernel
theorem dX2_find_39 : decode cX2_find 39 = .ok (.iload 4, 2) := by decide +kernel
theorem dX2_find_41 : decode cX2_find 41 = .ok (.ishr, 1) := by decide +kernel
theorem dX2_find_42 : decode cX2_find 42 = .ok (.iconst 1, 1) := by decide +kernel
theorem dX2_find_43 : decode cX2_find 43 = .ok (.iand, 1) := by decide +kernel
theorem dX2_find_44 : decode cX2_find 44 = .ok (.iconst 1, 1) := by decide +kernel
theorem dX2_find_45 : decode cX2_find 45 = .ok (.if_icmp .ne 40, 3) := by decide +kernel
theorem dX2_find_48 : decode cX2_find 48 = .ok (.aload_n 0, 1) := by decide +kernel
theorem dX2_find_49 : decode cX2_find 49 = .ok (.getfield 18, 3) := by decide +kernel
theorem dX2_find_52 : decode cX2_find 52 = .ok (.aload_n 0, 1) := by decide +kernel
theorem dX2_find_53 : decode cX2_find 53 = .ok (.getfield 44, 3) := by decide +kernel
theorem dX2_find_56 : decode cX2_find 56 = .ok (.iload 4, 2) := by decide +kernel
theorem dX2_find_58 : decode cX2_find 58 = .ok (.iastore, 1) := by decide +kernel
theorem dX2_find_59 : decode cX2_find 59 = .ok (.aload_n 0, 1) := by decide +kernel
theorem dX2_find_60 : decode cX2_find 60 = .ok (.aload_n 1, 1) := by decide +kernel
theorem dX2_find_61 : decode cX2_find 61 = .ok (.iload 4, 2) := by decide +kernel
theorem dX2_find_63 : decode cX2_find 63 = .ok (.invokevirtual 56, 3) := by decide +kernel
theorem dX2_find_66 : decode cX2_find 66 = .ok (.aload_n 0, 1) := by decide +kernel
theorem dX2_find_67 : decode cX2_find 67 = .ok (.aload_n 1, 1) := by decide +kernel
theorem dX2_find_68 : decode cX2_find 68 = .ok (.aload_n 0, 1) := by decide +kernel
theorem dX2_find_69 : decode cX2_find 69 = .ok (.getfield 44, 3) := by decide +kernel
theorem dX2_find_72 : decode cX2_find 72 = .ok (.invokevirtual 59, 3) := by decide +kernel
theorem dX2_find_75 : decode cX2_find 75 = .ok (.aload_n 0, 1) := by decide +kernel
theorem dX2_find_76 : decode cX2_find 76 = .ok (.dup, 1) := by decide +kernel
theorem dX2_find_77 : decode cX2_find 77 = .ok (.getfield 44, 3) := by decide +kernel
theorem dX2_find_80 : decode cX2_find 80 = .ok (.iconst 1, 1) := by decide +kernel
theorem dX2_find_81 : decode cX2_find 81 = .ok (.iadd, 1) := by decide +kernel
theorem dX2_find_82 : decode cX2_find 82 = .ok (.putfield 44, 3) := by decide +kernel
theorem dX2_find_85 : decode cX2_find 85 = .ok (.iinc 4 1, 3) := by decide +kernel
theorem dX2_find_88 : decode cX2_find 88 = .ok (.goto (-59), 3) := by decide +kernel
theorem dX2_find_91 : decode cX2_find 91 = .ok (.return_, 1) := by decide +kernel
theorem dX2_excess_0 : decode cX2_excess 0 = .ok (.aload_n 0, 1) := by decide +kernel
theorem dX2_excess_1 : decode cX2_excess 1 = .ok (.getfield 28, 3) := by decide +kernel
theorem dX2_excess_4 : decode cX2_excess 4 = .ok (.iload_n 1, 1) := by decide +kernel
theorem dX2_excess_5 : decode cX2_excess 5 = .ok (.iaload, 1) := by decide +kernel
theorem dX2_excess_6 : decode cX2_excess 6 = .ok (.invokestatic 101, 3) := by decide +kernel
theorem dX2_excess_9 : decode cX2_excess 9 = .ok (.aload_n 0, 1) := by decide +kernel
theorem dX2_excess_10 : decode cX2_excess 10 = .ok (.getfield 31, 3) := by decide +kernel
theorem dX2_excess_13 : decode cX2_excess 13 = .ok (.iload_n 1, 1) := by decide +kernel
theorem dX2_excess_14 : decode cX2_excess 14 = .ok (.iaload, 1) := by decide +kernel
theorem dX2_excess_15 : decode cX2_excess 15 = .ok (.isub, 1) := by decide +kernel
theorem dX2_excess_16 : decode cX2_excess 16 = .ok (.ireturn, 1) := by decide +kernel
theorem dX2_badSet_0 : decode cX2_badSet 0 = .ok (.iconst 0, 1) := by decide +kernel
theorem dX2_badSet_1 : decode cX2_badSet 1 = .ok (.istore_n 1, 1) := by decide +kernel
theorem dX2_badSet_2 : decode cX2_badSet 2 = .ok (.iconst 0, 1) := by decide +kernel
theorem dX2_badSet_3 : decode cX2_badSet 3 = .ok (.istore_n 2, 1) := by decide +kernel
theorem dX2_badSet_4 : decode cX2_badSet 4 = .ok (.iload_n 2, 1) := by decide +kernel
theorem dX2_badSet_5 : decode cX2_badSet 5 = .ok (.aload_n 0, 1) := by decide +kernel
theorem dX2_badSet_6 : decode cX2_badSet 6 = .ok (.getfield 44, 3) := by decide +kernel
theorem dX2_badSet_9 : decode cX2_badSet 9 = .ok (.if_icmp .ge 23, 3) := by decide +kernel
theorem dX2_badSet_12 : decode cX2_badSet 12 = .ok (.aload_n 0, 1) := by decide +kernel
theorem dX2_badSet_13 : decode cX2_badSet 13 = .ok (.iload_n 2, 1) := by decide +kernel
theorem dX2_badSet_14 : decode cX2_badSet 14 = .ok (.invokevirtual 106, 3) := by decide +kernel
theorem dX2_badSet_17 : decode cX2_badSet 17 = .ok (.ifCond .le 9, 3) := by decide +kernel
theorem dX2_badSet_20 : decode cX2_badSet 20 = .ok (.iload_n 1, 1) := by decide +kernel
theorem dX2_badSet_21 : decode cX2_badSet 21 = .ok (.iconst 1, 1) := by decide +kernel
theorem dX2_badSet_22 : decode cX2_badSet 22 = .ok (.iload_n 2, 1) := by decide +kernel
theorem dX2_badSet_23 : decode cX2_badSet 23 = .ok (.ishl, 1) := by decide +kernel
theorem dX2_badSet_24 : decode cX2_badSet 24 = .ok (.ior, 1) := by decide +kernel
theorem dX2_badSet_25 : decode cX2_badSet 25 = .ok (.istore_n 1, 1) := by decide +kernel
theorem dX2_badSet_26 : decode cX2_badSet 26 = .ok (.iinc 2 1, 3) := by decide +kernel
theorem dX2_badSet_29 : decode cX2_badSet 29 = .ok (.goto (-25), 3) := by decide +kernel
theorem dX2_badSet_32 : decode cX2_badSet 32 = .ok (.iload_n 1, 1) := by decide +kernel
theorem dX2_badSet_33 : decode cX2_badSet 33 = .ok (.ireturn, 1) := by decide +kernel
def b_X5_spread_69 (x2 : Int32) (x3 : Int32) (x5 : Int32) (x6 : Int32) (x4 : Int32) (x7 : Int32) (μ : gM) : Option ((Int32 × Int32 × gM) ⊕ (Int32 × gM)) :=
  if ((gi μ 34 2) ≤ x7) then some (.inr (x4, μ)) else Option.bind (f_X3_across x2 x7 x6 μ) (fun q10 => if (q10 = (-1 : Int32)) then some (.inl (x4, (x7 + (1 : Int32)), μ)) else gchk (gIn q10 16) (if ((gi μ 8 q10.toNatClampNeg) = (-1 : Int32)) then if ((16 : Int32) ≤ x4) then some (.inl (x4, (x7 + (1 : Int32)), μ)) else gchk (gIn q10 16) (gchk (gIn q10 16) (gchk (gIn q10 16) (gchk (gIn x6 16) (gchk (gIn q10 16) (gchk (gIn x4 16) (some (.inl ((x4 + (1 : Int32)), (x7 + (1 : Int32)), (si (si (si (si (si (si μ 7 5 ((gi μ 7 5) ||| ((1 : Int32) <<< (x7 &&& 31)))) 8 q10.toNatClampNeg x3) 9 q10.toNatClampNeg x7) 10 q10.toNatClampNeg x6) 11 q10.toNatClampNeg ((gi (si (si (si (si μ 7 5 ((gi μ 7 5) ||| ((1 : Int32) <<< (x7 &&& 31)))) 8 q10.toNatClampNeg x3) 9 q10.toNatClampNeg x7) 10 q10.toNatClampNeg x6) 11 x6.toNatClampNeg) + (1 : Int32))) 12 x4.toNatClampNeg q10))))))))) else some (.inl (x4, (x7 + (1 : Int32)), μ))))
set_option maxHeartbeats 4000000 in
set_option maxRecDepth 100000 in
theorem wb_X5_spread_69 {p : Program} {l : Launch} {e : Env} {s : State} {m : MethodId} {args : Array Value} {below : List Frame} {meth : Method} {c : Code} {D : va_G} {cy : Nat → ClassId} {ad : Nat → Nat} {base : gBs} {x2 : Int32} {x3 : Int32} {x5 : Int32} {x6 : Int32} {x4 : Int32} {x7 : Int32} {μ : gM} {o : (Int32 × Int32 × gM) ⊕ (Int32 × gM)} {RES : gM} (h : b_X5_spread_69 x2 x3 x5 x6 x4 x7 μ = some o) (F : gF p s m meth c cX5_spread RX5 9 none) (E : gEnv l D cy ad base s) (kc : ∀ (t : Int32 × Int32 × gM) {H : Heap} {locs : List Loc} {ls : Array Slot}, o = .inl t → gW gFull D cy ad base t.2.2 H → va_S (gA base) s.heap H locs → lv_has ls 9 [(0, .ref (ad 7)), (1, .ref (ad 34)), (2, .int x2), (3, .int x3), (4, .int t.1), (5, .int x5), (6, .int x6), (7, .int t.2.1)] → W p l e ({ frames := 1, cells := 0, slots := 0, locals := 23 } : Room) s m args below meth c H locs 0 0 (MQ below (gQ none gFull D cy ad base RES) args s 0 0 (gA base)) (F0 m 69 ls [])) (kx : ∀ (t : Int32 × gM) {H : Heap} {locs : List Loc} {ls : Array Slot}, o = .inr t → gW gFull D cy ad base t.2 H → va_S (gA base) s.heap H locs → lv_has ls 9 [(0, .ref (ad 7)), (1, .ref (ad 34)), (2, .int x2), (3, .int x3), (4, .int t.1), (5, .int x5)] → W p l e ({ frames := 1, cells := 0, slots := 0, locals := 23 } : Room) s m args below meth c H locs 0 0 (MQ below (gQ none gFull D cy ad base RES) args s 0 0 (gA base)) (F0 m 186 ls []))  {H : Heap} {locs : List Loc} {ls : Array Slot} (hM : gW gFull D cy ad base μ H) (hS : va_S (gA base) s.heap H locs) (hl : lv_has ls 9 [(0, .ref (ad 7)), (1, .ref (ad 34)), (2, .int x2), (3, .int x3), (4, .int x4), (5, .int x5), (6, .int x6), (7, .int x7)]) : W p l e ({ frames := 1, cells := 0, slots := 0, locals := 23 } : Room) s m args below meth c H locs 0 0 (MQ below (gQ none gFull D cy ad base RES) args s 0 0 (gA base)) (F0 m 69 ls []) := by
  obtain ⟨hx, hb, hml, hown, hlocks, hr⟩ := id F
  unfold b_X5_spread_69 at h
  refine lv_iload hx hb dX5_spread_69 (lv_at hl 7 rfl) ?_
  refine lv_aload_n hx hb dX5_spread_71 rfl (lv_at hl 1 rfl) ?_
  refine gg_34_2 hx hb hown E hM hk_34 kw_402 dX5_spread_72 ?_
  refine lv_icmp_ge (tgt := 186) hx hb dX5_spread_75 (by decide) (fun c9 => ?_) (fun c9 => ?_)
  · replace h := gif_t c9 h
    exact kx _ (Option.some.inj h).symm hM hS (lv_sub hl [0, 1, 2, 3, 4, 5] rfl)
  · replace h := gif_f c9 h
    refine lv_aload_n hx hb dX5_spread_78 rfl (lv_at hl 1 rfl) ?_
    refine lv_iload_n hx hb dX5_spread_79 rfl (lv_at hl 2 rfl) ?_
    refine lv_iload hx hb dX5_spread_80 (lv_at hl 7 rfl) ?_
    refine lv_iload hx hb dX5_spread_82 (lv_at hl 6 rfl) ?_
    obtain ⟨q10, hq10, h⟩ := gbind_e h
    refine g_callV (As := [.int x2, .int x7, .int x6]) (rest := []) hx hb (hml.trans hl.1.symm) hown E hM hS hy_X3_across kw_1248 (c_X3_across hq10) hk_34 dd_34 rfl rfl rfl (Nat.le_of_ble_eq_true rfl) ⟨Nat.le_of_ble_eq_true rfl, Nat.le_of_ble_eq_true rfl⟩ ⟨Nat.le_of_ble_eq_true rfl, Nat.le_of_ble_eq_true rfl⟩ dX5_spread_84 (fun H locs hM hS => ?_)
    refine lv_istore (lv' := [(8, .int q10), (0, .ref (ad 7)), (1, .ref (ad 34)), (2, .int x2), (3, .int x3), (4, .int x4), (5, .int x5), (6, .int x6), (7, .int x7)]) hx hb dX5_spread_87 hl (by decide) rfl (fun ls hl => ?_)
    refine lv_iload hx hb dX5_spread_89 (lv_at hl 0 rfl) ?_
    refine lv_iconst (v := (-1 : Int32)) hx hb dX5_spread_91 (by decide) ?_
    refine lv_icmp_eq (tgt := 180) hx hb dX5_spread_92 (by decide) (fun c11 => ?_) (fun c11 => ?_)
    · replace h := gif_t c11 h
      refine lv_iinc (v := (x7 + (1 : Int32))) (lv' := [(7, .int (x7 + (1 : Int32))), (8, .int q10), (0, .ref (ad 7)), (1, .ref (ad 34)), (2, .int x2), (3, .int x3), (4, .int x4), (5, .int x5), (6, .int x6)]) hx hb dX5_spread_180 hl (k := 8) rfl rfl (by decide) rfl (fun ls hl => ?_)
      refine lv_goto (tgt := 69) hx hb dX5_spread_183 (by decide) ?_
      exact kc _ (Option.some.inj h).symm hM hS (lv_sub hl [2, 3, 4, 5, 6, 7, 8, 0] rfl)
    · replace h := gif_f c11 h
      refine lv_aload_n hx hb dX5_spread_95 rfl (lv_at hl 1 rfl) ?_
      refine gg_7_0 hx hb hown E hM hk_7 kw_243 dX5_spread_96 ?_
      refine lv_iload hx hb dX5_spread_99 (lv_at hl 0 rfl) ?_
      obtain ⟨c12, h⟩ := gchk_e h
      refine g_iald hx hb E hM hk_8 dd_8 c12 dX5_spread_101 ?_
      refine lv_iconst (v := (-1 : Int32)) hx hb dX5_spread_102 (by decide) ?_
      refine lv_icmp_ne (tgt := 180) hx hb dX5_spread_103 (by decide) (fun c13 => ?_) (fun c13 => ?_)
      · replace h := gif_f c13 h
        refine lv_iinc (v := (x7 + (1 : Int32))) (lv' := [(7, .int (x7 + (1 : Int32))), (8, .int q10), (0, .ref (ad 7)), (1, .ref (ad 34)), (2, .int x2), (3, .int x3), (4, .int x4), (5, .int x5), (6, .int x6)]) hx hb dX5_spread_180 hl (k := 8) rfl rfl (by decide) rfl (fun ls hl => ?_)
        refine lv_goto (tgt := 69) hx hb dX5_spread_183 (by decide) ?_
        exact kc _ (Option.some.inj h).symm hM hS (lv_sub hl [2, 3, 4, 5, 6, 7, 8, 0] rfl)
      · replace h := gif_t c13 h
        refine lv_iload hx hb dX5_spread_106 (lv_at hl 5 rfl) ?_
        refine lv_bipush (v := (16 : Int32)) hx hb dX5_spread_108 (by decide) ?_
        refine lv_icmp_ge (tgt := 180) hx hb dX5_spread_110 (by decide) (fun c14 => ?_) (fun c14 => ?_)
        · replace h := gif_t c14 h
          refine lv_iinc (v := (x7 + (1 : Int32))) (lv' := [(7, .int (x7 + (1 : Int32))), (8, .int q10), (0, .ref (ad 7)), (1, .ref (ad 34)), (2, .int x2), (3, .int x3), (4, .int x4), (5, .int x5), (6, .int x6)]) hx hb dX5_spread_180 hl (k := 8) rfl rfl (by decide) rfl (fun ls hl => ?_)
          refine lv_goto (tgt := 69) hx hb dX5_spread_183 (by decide) ?_
          exact kc _ (Option.some.inj h).symm hM hS (lv_sub hl [2, 3, 4, 5, 6, 7, 8, 0] rfl)
        · replace h := gif_f c14 h
          refine lv_aload_n hx hb dX5_spread_113 rfl (lv_at hl 1 rfl) ?_
          refine lv_dup hx hb dX5_spread_114 rfl ?_
          refine gg_7_5 hx hb hown E hM hk_7 kw_252 dX5_spread_115 ?_
          refine lv_iconst (v := (1 : Int32)) hx hb dX5_spread_118 (by decide) ?_
          refine lv_iload hx hb dX5_spread_119 (lv_at hl 8 rfl) ?_
          refine lv_ishl hx hb dX5_spread_121 ?_
          refine lv_ior hx hb dX5_spread_122 ?_
          refine gp_7_5 hx hb hown E hM hS hk_7 kw_252 dX5_spread_123 (fun H locs hM hS => ?_)
          refine lv_aload_n hx hb dX5_spread_126 rfl (lv_at hl 1 rfl) ?_
          refine gg_7_0 hx hb hown E hM hk_7 kw_243 dX5_spread_127 ?_
          refine lv_iload hx hb dX5_spread_130 (lv_at hl 0 rfl) ?_
          refine lv_iload_n hx hb dX5_spread_132 rfl (lv_at hl 4 rfl) ?_
          obtain ⟨c15, h⟩ := gchk_e h
          refine g_iast hx hb E hM hS hk_8 dd_8 c15 dX5_spread_133 (fun H locs hM hS => ?_)
          refine lv_aload_n hx hb dX5_spread_134 rfl (lv_at hl 1 rfl) ?_
          refine gg_7_1 hx hb hown E hM hk_7 kw_245 dX5_spread_135 ?_
          refine lv_iload hx hb dX5_spread_138 (lv_at hl 0 rfl) ?_
          refine lv_iload hx hb dX5_spread_140 (lv_at hl 8 rfl) ?_
          obtain ⟨c16, h⟩ := gchk_e h
          refine g_iast hx hb E hM hS hk_9 dd_9 c16 dX5_spread_142 (fun H locs hM hS => ?_)
          refine lv_aload_n hx hb dX5_spread_143 rfl (lv_at hl 1 rfl) ?_
          refine gg_7_2 hx hb hown E hM hk_7 kw_247 dX5_spread_144 ?_
          refine lv_iload hx hb dX5_spread_147 (lv_at hl 0 rfl) ?_
          refine lv_iload hx hb dX5_spread_149 (lv_at hl 7 rfl) ?_
          obtain ⟨c17, h⟩ := gchk_e h
          refine g_iast hx hb E hM hS hk_10 dd_10 c17 dX5_spread_151 (fun H locs hM hS => ?_)
          refine lv_aload_n hx hb dX5_spread_152 rfl (lv_at hl 1 rfl) ?_
          refine gg_7_3 hx hb hown E hM hk_7 kw_249 dX5_spread_153 ?_
          refine lv_iload hx hb dX5_spread_156 (lv_at hl 0 rfl) ?_
          refine lv_aload_n hx hb dX5_spread_158 rfl (lv_at hl 1 rfl) ?_
          refine gg_7_3 hx hb hown E hM hk_7 kw_249 dX5_spread_159 ?_
          refine lv_iload hx hb dX5_spread_162 (lv_at hl 7 rfl) ?_
          obtain ⟨c18, h⟩ := gchk_e h
          refine g_iald hx hb E hM hk_11 dd_11 c18 dX5_spread_164 ?_
          refine lv_iconst (v := (1 : Int32)) hx hb dX5_spread_165 (by decide) ?_
          refine lv_iadd hx hb dX5_spread_166 ?_
          obtain ⟨c19, h⟩ := gchk_e h
          refine g_iast hx hb E hM hS hk_11 dd_11 c19 dX5_spread_167 (fun H locs hM hS => ?_)
          refine lv_aload_n hx hb dX5_spread_168 rfl (lv_at hl 1 rfl) ?_
          refine gg_7_4 hx hb hown E hM hk_7 kw_251 dX5_spread_169 ?_
          refine lv_iload hx hb dX5_spread_172 (lv_at hl 5 rfl) ?_
          refine lv_iload hx hb dX5_spread_174 (lv_at hl 0 rfl) ?_
          obtain ⟨c20, h⟩ := gchk_e h
          refine g_iast hx hb E hM hS hk_12 dd_12 c20 dX5_spread_176 (fun H locs hM hS => ?_)
          refine lv_iinc (v := (x4 + (1 : Int32))) (lv' := [(4, .int (x4 + (1 : Int32))), (8, .int q10), (0, .ref (ad 7)), (1, .ref (ad 34)), (2, .int x2), (3, .int x3), (5, .int x5), (6, .int x6), (7, .int x7)]) hx hb dX5_spread_177 hl (k := 5) rfl rfl (by decide) rfl (fun ls hl => ?_)
          refine lv_iinc (v := (x7 + (1 : Int32))) (lv' := [(7, .int (x7 + (1 : Int32))), (4, .int (x4 + (1 : Int32))), (8, .int q10), (0, .ref (ad 7)), (1, .ref (ad 34)), (2, .int x2), (3, .int x3), (5, .int x5), (6, .int x6)]) hx hb dX5_spread_180 hl (k := 8) rfl rfl (by decide) rfl (fun ls hl => ?_)
          refine lv_goto (tgt := 69) hx hb dX5_spread_183 (by decide) ?_
          exact kc _ (Option.some.inj h).symm hM hS (lv_sub hl [3, 4, 5, 6, 1, 7, 8, 0] rfl)
set_option maxHeartbeats 4000000 in
theorem wl_X5_spread_69 {p : Program} {l : Launch} {e : Env} {s : State} {m : MethodId} {args : Array Value} {below : List Frame} {meth : Method} {c : Code} {D : va_G} {cy : Nat → ClassId} {ad : Nat → Nat} {base : gBs} {x2 : Int32} {x3 : Int32} {x5 : Int32} {x6 : Int32} {r : Int32 × gM} {RES : gM} (F : gF p s m meth c cX5_spread RX5 9 none) (E : gEnv l D cy ad base s) (kx : ∀ (t : Int32 × gM) {H : Heap} {locs : List Loc} {ls : Array Slot}, r = t → gW gFull D cy ad base t.2 H → va_S (gA base) s.heap H locs → lv_has ls 9 [(0, .ref (ad 7)), (1, .ref (ad 34)), (2, .int x2), (3, .int x3), (4, .int t.1), (5, .int x5)] → W p l e ({ frames := 1, cells := 0, slots := 0, locals := 23 } : Room) s m args below meth c H locs 0 0 (MQ below (gQ none gFull D cy ad base RES) args s 0 0 (gA base)) (F0 m 186 ls []))  : ∀ (n : Nat) (x4 : Int32) (x7 : Int32) (μ : gM), gloop (fun t => b_X5_spread_69 x2 x3 x5 x6 t.1 t.2.1 t.2.2) n (x4, x7, μ) = some r → ∀ {H : Heap} {locs : List Loc} {ls : Array Slot}, gW gFull D cy ad base μ H → va_S (gA base) s.heap H locs → lv_has ls 9 [(0, .ref (ad 7)), (1, .ref (ad 34)), (2, .int x2), (3, .int x3), (4, .int x4), (5, .int x5), (6, .int x6), (7, .int x7)] → W p l e ({ frames := 1, cells := 0, slots := 0, locals := 23 } : Room) s m args below meth c H locs 0 0 (MQ below (gQ none gFull D cy ad base RES) args s 0 0 (gA base)) (F0 m 69 ls []) := by
  intro n
  induction n with
  | zero =>
    intro x4 x7 μ h
    exact (gloop_0 h).elim
  | succ n ih =>
    intro x4 x7 μ h H locs ls hM hS hl
    obtain ⟨o, h0, hc, hq⟩ := gloop_s h
    have h1 : b_X5_spread_69 x2 x3 x5 x6 x4 x7 μ = some o := h0
    exact wb_X5_spread_69 h1 F E (fun t H locs ls ho hM hS hl => ih t.1 t.2.1 t.2.2 (hc t ho) hM hS hl) (fun t H locs ls ho hM hS hl => kx t (hq _ ho).symm hM hS hl) hM hS hl
def b_X5_spread_41 (x2 : Int32) (x3 : Int32) (x4 : Int32) (x5 : Int32) (μ : gM) : Option ((Int32 × Int32 × gM) ⊕ (gM)) :=
  if ((gi μ 34 1) ≤ x5) then some (.inr μ) else if (x4 ≤ x5) then some (.inr μ) else gchk (gIn x5 16) (Option.bind (gloop (fun t => b_X5_spread_69 x2 x3 x5 (gi μ 12 x5.toNatClampNeg) t.1 t.2.1 t.2.2) gFuel (x4, (0 : Int32), μ)) (fun q21 => some (.inl (q21.1, (x5 + (1 : Int32)), q21.2))))
set_option maxHeartbeats 4000000 in
set_option maxRecDepth 100000 in
theorem wb_X5_spread_41 {p : Program} {l : Launch} {e : Env} {s : State} {m : MethodId} {args : Array Value} {below : List Frame} {meth : Method} {c : Code} {D : va_G} {cy : Nat → ClassId} {ad : Nat → Nat} {base : gBs} {x2 : Int32} {x3 : Int32} {x4 : Int32} {x5 : Int32} {μ : gM} {o : (Int32 × Int32 × gM) ⊕ (gM)} {RES : gM} (h : b_X5_spread_41 x2 x3 x4 x5 μ = some o) (F : gF p s m meth c cX5_spread RX5 9 none) (E : gEnv l D cy ad base s) (kc : ∀ (t : Int32 × Int32 × gM) {H : Heap} {locs : List Loc} {ls : Array Slot}, o = .inl t → gW gFull D cy ad base t.2.2 H → va_S (gA base) s.heap H locs → lv_has ls 9 [(0, .ref (ad 7)), (1, .ref (ad 34)), (2, .int x2), (3, .int x3), (4, .int t.1), (5, .int t.2.1)] → W p l e ({ frames := 1, cells := 0, slots := 0, locals := 23 } : Room) s m args below meth c H locs 0 0 (MQ below (gQ none gFull D cy ad base RES) args s 0 0 (gA base)) (F0 m 41 ls [])) (kx : ∀ (t : gM) {H : Heap} {locs : List Loc} {ls : Array Slot}, o = .inr t → gW gFull D cy ad base t H → va_S (gA base) s.heap H locs → lv_has ls 9 [] → W p l e ({ frames := 1, cells := 0, slots := 0, locals := 23 } : Room) s m args below meth c H locs 0 0 (MQ below (gQ none gFull D cy ad base RES) args s 0 0 (gA base)) (F0 m 192 ls []))  {H : Heap} {locs : List Loc} {ls : Array Slot} (hM : gW gFull D cy ad base μ H) (hS : va_S (gA base) s.heap H locs) (hl : lv_has ls 9 [(0, .ref (ad 7)), (1, .ref (ad 34)), (2, .int x2), (3, .int x3), (4, .int x4), (5, .int x5)]) : W p l e ({ frames := 1, cells := 0, slots := 0, locals := 23 } : Room) s m args below meth c H locs 0 0 (MQ below (gQ none gFull D cy ad base RES) args s 0 0 (gA base)) (F0 m 41 ls []) := by
  obtain ⟨hx, hb, hml, hown, hlocks, hr⟩ := id F
  unfold b_X5_spread_41 at h
  refine lv_iload hx hb dX5_spread_41 (lv_at hl 5 rfl) ?_
  refine lv_aload_n hx hb dX5_spread_43 rfl (lv_at hl 1 rfl) ?_
  refine gg_34_1 hx hb hown E hM hk_34 kw_395 dX5_spread_44 ?_
  refine lv_icmp_ge (tgt := 192) hx hb dX5_spread_47 (by decide) (fun c6 => ?_) (fun c6 => ?_)
  · replace h := gif_t c6 h
    exact kx _ (Option.some.inj h).symm hM hS (lv_sub hl [] rfl)
  · replace h := gif_f c6 h
    refine lv_iload hx hb dX5_spread_50 (lv_at hl 5 rfl) ?_
    refine lv_iload hx hb dX5_spread_52 (lv_at hl 4 rfl) ?_
    refine lv_icmp_ge (tgt := 192) hx hb dX5_spread_54 (by decide) (fun c7 => ?_) (fun c7 => ?_)
    · replace h := gif_t c7 h
      exact kx _ (Option.some.inj h).symm hM hS (lv_sub hl [] rfl)
    · replace h := gif_f c7 h
      refine lv_aload_n hx hb dX5_spread_57 rfl (lv_at hl 0 rfl) ?_
      refine gg_7_4 hx hb hown E hM hk_7 kw_251 dX5_spread_58 ?_
      refine lv_iload hx hb dX5_spread_61 (lv_at hl 5 rfl) ?_
      obtain ⟨c8, h⟩ := gchk_e h
      refine g_iald hx hb E hM hk_12 dd_12 c8 dX5_spread_63 ?_
      refine lv_istore (lv' := [(6, .int (gi μ 12 x5.toNatClampNeg)), (0, .ref (ad 7)), (1, .ref (ad 34)), (2, .int x2), (3, .int x3), (4, .int x4), (5, .int x5)]) hx hb dX5_spread_64 hl (by decide) rfl (fun ls hl => ?_)
      refine lv_iconst (v := (0 : Int32)) hx hb dX5_spread_66 (by decide) ?_
      refine lv_istore (lv' := [(7, .int (0 : Int32)), (6, .int (gi μ 12 x5.toNatClampNeg)), (0, .ref (ad 7)), (1, .ref (ad 34)), (2, .int x2), (3, .int x3), (4, .int x4), (5, .int x5)]) hx hb dX5_spread_67 hl (by decide) rfl (fun ls hl => ?_)
      obtain ⟨z22, h1, h⟩ := gbind_e h
      refine wl_X5_spread_69 F E (r := z22) (fun q21 H locs ls e1 hM hS hl => ?_) gFuel x4 (0 : Int32) μ h1 hM hS (lv_sub hl [2, 3, 4, 5, 6, 7, 1, 0] rfl)
      replace e1 : z22 = q21 := e1
      rw [e1] at h
      refine lv_iinc (v := (x5 + (1 : Int32))) (lv' := [(5, .int (x5 + (1 : Int32))), (0, .ref (ad 7)), (1, .ref (ad 34)), (2, .int x2), (3, .int x3), (4, .int q21.1)]) hx hb dX5_spread_186 hl (k := 5) rfl rfl (by decide) rfl (fun ls hl => ?_)
      refine lv_goto (tgt := 41) hx hb dX5_spread_189 (by decide) ?_
      exact kc _ (Option.some.inj h).symm hM hS (lv_sub hl [1, 2, 3, 4, 5, 0] rfl)
set_option maxHeartbeats 4000000 in
theorem wl_X5_spread_41 {p : Program} {l : Launch} {e : Env} {s : State} {m : MethodId} {args : Array Value} {below : List Frame} {meth : Method} {c : Code} {D : va_G} {cy : Nat → ClassId} {ad : Nat → Nat} {base : gBs} {x2 : Int32} {x3 : Int32} {r : gM} {RES : gM} (F : gF p s m meth c cX5_spread RX5 9 none) (E : gEnv l D cy ad base s) (kx : ∀ (t : gM) {H : Heap} {locs : List Loc} {ls : Array Slot}, r = t → gW gFull D cy ad base t H → va_S (gA base) s.heap H locs → lv_has ls 9 [] → W p l e ({ frames := 1, cells := 0, slots := 0, locals := 23 } : Room) s m args below meth c H locs 0 0 (MQ below (gQ none gFull D cy ad base RES) args s 0 0 (gA base)) (F0 m 192 ls []))  : ∀ (n : Nat) (x4 : Int32) (x5 : Int32) (μ : gM), gloop (fun t => b_X5_spread_41 x2 x3 t.1 t.2.1 t.2.2) n (x4, x5, μ) = some r → ∀ {H : Heap} {locs : List Loc} {ls : Array Slot}, gW gFull D cy ad base μ H → va_S (gA base) s.heap H locs → lv_has ls 9 [(0, .ref (ad 7)), (1, .ref (ad 34)), (2, .int x2), (3, .int x3), (4, .int x4), (5, .int x5)] → W p l e ({ frames := 1, cells := 0, slots := 0, locals := 23 } : Room) s m args below meth c H locs 0 0 (MQ below (gQ none gFull D cy ad base RES) args s 0 0 (gA base)) (F0 m 41 ls []) := by
  intro n
  induction n with
  | zero =>
    intro x4 x5 μ h
    exact (gloop_0 h).elim
  | succ n ih =>
    intro x4 x5 μ h H locs ls hM hS hl
    obtain ⟨o, h0, hc, hq⟩ := gloop_s h
    have h1 : b_X5_spread_41 x2 x3 x4 x5 μ = some o := h0
    exact wb_X5_spread_41 h1 F E (fun t H locs ls ho hM hS hl => ih t.1 t.2.1 t.2.2 (hc t ho) hM hS hl) (fun t H locs ls ho hM hS hl => kx t (hq _ ho).symm hM hS hl) hM hS hl
def f_X5_spread (p2 : Int32) (p3 : Int32) (μ : gM) : Option (gM) :=
  gchk (gIn p3 16) (gchk (gIn p3 16) (gchk (gIn p3 16) (gchk (gIn p3 16) (gchk (gIn (0 : Int32) 16) (Option.bind (gloop (fun t => b_X5_spread_41 p2 p3 t.1 t.2.1 t.2.2) gFuel ((1 : Int32), (0 : Int32), (si (si (si (si (si μ 8 p3.toNatClampNeg p3) 9 p3.toNatClampNeg (-1 : Int32)) 10 p3.toNatClampNeg p3) 11 p3.toNatClampNeg (0 : Int32)) 12 (0 : Int32).toNatClampNeg p3))) (fun q23 => some q23))))))
set_option maxHeartbeats 4000000 in
set_option maxRecDepth 100000 in
theorem c_X5_spread {l : Launch} {D : va_G} {cy : Nat → ClassId} {ad : Nat → Nat} {base : gBs} {p2 : Int32} {p3 : Int32} {μ : gM} {RES : gM} (h : f_X5_spread p2 p3 μ = some RES) : Met l yX5_spread [.code yX5_spread cX5_spread 9 none] ({ frames := 1, cells := 0, slots := 0, locals := 23 } : Room) (va_Pc [.ref (ad 7), .ref (ad 34), .int p2, .int p3] (gB l gFull D cy ad base μ)) (gQ none gFull D cy ad base RES) 0 0 (gA base) := by
  refine Met.ofW (cc := cX5_spread) (maxL := 9) (ret := none) (by decide) rfl ?_
  intro p e s m args below meth c s₁ B hml0 hv
  obtain ⟨rfl, E, hM⟩ := hv
  have F : gF p s m meth c cX5_spread RX5 9 none := gF_of B hml0
  obtain ⟨hx, hb, hml, hown, hlocks, hr⟩ := id F
  have hS : va_S (gA base) s.heap s.heap [] := va_S.rf
  have hl := lv_entry ([.ref (ad 7), .ref (ad 34), .int p2, .int p3]) (n := 9) (Nat.le_of_ble_eq_true rfl)
  rw [lg_entry_eq]
  generalize (lg_sl ([.ref (ad 7), .ref (ad 34), .int p2, .int p3]) ++ List.replicate (9 - (lg_sl ([.ref (ad 7), .ref (ad 34), .int p2, .int p3])).length) Slot.unset).toArray = ls at hl ⊢
  have hl : lv_has ls 9 [(0, .ref (ad 7)), (1, .ref (ad 34)), (2, .int p2), (3, .int p3)] := hl
  unfold f_X5_spread at h
  refine lv_aload_n hx hb dX5_spread_0 rfl (lv_at hl 0 rfl) ?_
  refine gg_7_0 hx hb hown E hM hk_7 kw_243 dX5_spread_1 ?_
  refine lv_iload_n hx hb dX5_spread_4 rfl (lv_at hl 3 rfl) ?_
  refine lv_iload_n hx hb dX5_spread_5 rfl (lv_at hl 3 rfl) ?_
  obtain ⟨c1, h⟩ := gchk_e h
  refine g_iast hx hb E hM hS hk_8 dd_8 c1 dX5_spread_6 (fun H locs hM hS => ?_)
  refine lv_aload_n hx hb dX5_spread_7 rfl (lv_at hl 0 rfl) ?_
  refine gg_7_1 hx hb hown E hM hk_7 kw_245 dX5_spread_8 ?_
  refine lv_iload_n hx hb dX5_spread_11 rfl (lv_at hl 3 rfl) ?_
  refine lv_iconst (v := (-1 : Int32)) hx hb dX5_spread_12 (by decide) ?_
  obtain ⟨c2, h⟩ := gchk_e h
  refine g_iast hx hb E hM hS hk_9 dd_9 c2 dX5_spread_13 (fun H locs hM hS => ?_)
  refine lv_aload_n hx hb dX5_spread_14 rfl (lv_at hl 0 rfl) ?_
  refine gg_7_2 hx hb hown E hM hk_7 kw_247 dX5_spread_15 ?_
  refine lv_iload_n hx hb dX5_spread_18 rfl (lv_at hl 3 rfl) ?_
  refine lv_iload_n hx hb dX5_spread_19 rfl (lv_at hl 3 rfl) ?_
  obtain ⟨c3, h⟩ := gchk_e h
  refine g_iast hx hb E hM hS hk_10 dd_10 c3 dX5_spread_20 (fun H locs hM hS => ?_)
  refine lv_aload_n hx hb dX5_spread_21 rfl (lv_at hl 0 rfl) ?_
  refine gg_7_3 hx hb hown E hM hk_7 kw_249 dX5_spread_22 ?_
  refine lv_iload_n hx hb dX5_spread_25 rfl (lv_at hl 3 rfl) ?_
  refine lv_iconst (v := (0 : Int32)) hx hb dX5_spread_26 (by decide) ?_
  obtain ⟨c4, h⟩ := gchk_e h
  refine g_iast hx hb E hM hS hk_11 dd_11 c4 dX5_spread_27 (fun H locs hM hS => ?_)
  refine lv_aload_n hx hb dX5_spread_28 rfl (lv_at hl 0 rfl) ?_
  refine gg_7_4 hx hb hown E hM hk_7 kw_251 dX5_spread_29 ?_
  refine lv_iconst (v := (0 : Int32)) hx hb dX5_spread_32 (by decide) ?_
  refine lv_iload_n hx hb dX5_spread_33 rfl (lv_at hl 3 rfl) ?_
  obtain ⟨c5, h⟩ := gchk_e h
  refine g_iast hx hb E hM hS hk_12 dd_12 c5 dX5_spread_34 (fun H locs hM hS => ?_)
  refine lv_iconst (v := (1 : Int32)) hx hb dX5_spread_35 (by decide) ?_
  refine lv_istore (lv' := [(4, .int (1 : Int32)), (0, .ref (ad 7)), (1, .ref (ad 34)), (2, .int p2), (3, .int p3)]) hx hb dX5_spread_36 hl (by decide) rfl (fun ls hl => ?_)
  refine lv_iconst (v := (0 : Int32)) hx hb dX5_spread_38 (by decide) ?_
  refine lv_istore (lv' := [(5, .int (0 : Int32)), (4, .int (1 : Int32)), (0, .ref (ad 7)), (1, .ref (ad 34)), (2, .int p2), (3, .int p3)]) hx hb dX5_spread_39 hl (by decide) rfl (fun ls hl => ?_)
  obtain ⟨z24, h1, h⟩ := gbind_e h
  refine wl_X5_spread_41 F E (r := z24) (fun q23 H locs ls e1 hM hS hl => ?_) gFuel (1 : Int32) (0 : Int32) (si (si (si (si (si μ 8 p3.toNatClampNeg p3) 9 p3.toNatClampNeg (-1 : Int32)) 10 p3.toNatClampNeg p3) 11 p3.toNatClampNeg (0 : Int32)) 12 (0 : Int32).toNatClampNeg p3) h1 hM hS (lv_sub hl [2, 3, 4, 5, 1, 0] rfl)
  replace e1 : z24 = q23 := e1
  rw [e1] at h
  obtain rfl := Option.some.inj h
  exact g_vret hx hb hr hlocks hM hS dX5_spread_192
def b_X5_grow_12 (x2 : Int32) (x3 : Int32) (μ : gM) : Option ((Int32 × gM) ⊕ (gM)) :=
  if ((gi μ 34 1) ≤ x3) then some (.inr μ) else gchk (gIn x3 16) (some (.inl ((x3 + (1 : Int32)), (si μ 8 x3.toNatClampNeg (-1 : Int32)))))
set_option maxHeartbeats 4000000 in
set_option maxRecDepth 100000 in
theorem wb_X5_grow_12 {p : Program} {l : Launch} {e : Env} {s : State} {m : MethodId} {args : Array Value} {below : List Frame} {meth : Method} {c : Code} {D : va_G} {cy : Nat → ClassId} {ad : Nat → Nat} {base : gBs} {x2 : Int32} {x3 : Int32} {μ : gM} {o : (Int32 × gM) ⊕ (gM)} {RES : gM} (h : b_X5_grow_12 x2 x3 μ = some o) (F : gF p s m meth c cX5_grow RX5 4 none) (E : gEnv l D cy ad base s) (kc : ∀ (t : Int32 × gM) {H : Heap} {locs : List Loc} {ls : Array Slot}, o = .inl t → gW gFull D cy ad base t.2 H → va_S (gA base) s.heap H locs → lv_has ls 4 [(0, .ref (ad 7)), (1, .ref (ad 34)), (2, .int x2), (3, .int t.1)] → W p l e ({ frames := 2, cells := 0, slots := 0, locals := 51 } : Room) s m args below meth c H locs 0 0 (MQ below (gQ none gFull D cy ad base RES) args s 0 0 (gA base)) (F0 m 12 ls [])) (kx : ∀ (t : gM) {H : Heap} {locs : List Loc} {ls : Array Slot}, o = .inr t → gW gFull D cy ad base t H → va_S (gA base) s.heap H locs → lv_has ls 4 [(0, .ref (ad 7)), (1, .ref (ad 34)), (2, .int x2)] → W p l e ({ frames := 2, cells := 0, slots := 0, locals := 51 } : Room) s m args below meth c H locs 0 0 (MQ below (gQ none gFull D cy ad base RES) args s 0 0 (gA base)) (F0 m 33 ls []))  {H : Heap} {locs : List Loc} {ls : Array Slot} (hM : gW gFull D cy ad base μ H) (hS : va_S (gA base) s.heap H locs) (hl : lv_has ls 4 [(0, .ref (ad 7)), (1, .ref (ad 34)), (2, .int x2), (3, .int x3)]) : W p l e ({ frames := 2, cells := 0, slots := 0, locals := 51 } : Room) s m args below meth c H locs 0 0 (MQ below (gQ none gFull D cy ad base RES) args s 0 0 (gA base)) (F0 m 12 ls []) := by
  obtain ⟨hx, hb, hml, hown, hlocks, hr⟩ := id F
  unfold b_X5_grow_12 at h
  refine lv_iload_n hx hb dX5_grow_12 rfl (lv_at hl 3 rfl) ?_
  refine lv_aload_n hx hb dX5_grow_13 rfl (lv_at hl 1 rfl) ?_
  refine gg_34_1 hx hb hown E hM hk_34 kw_395 dX5_grow_14 ?_
  refine lv_icmp_ge (tgt := 33) hx hb dX5_grow_17 (by decide) (fun c1 => ?_) (fun c1 => ?_)
  · replace h := gif_t c1 h
    exact kx _ (Option.some.inj h).symm hM hS (lv_sub hl [0, 1, 2] rfl)
  · replace h := gif_f c1 h
    refine lv_aload_n hx hb dX5_grow_20 rfl (lv_at hl 0 rfl) ?_
    refine gg_7_0 hx hb hown E hM hk_7 kw_243 dX5_grow_21 ?_
    refine lv_iload_n hx hb dX5_grow_24 rfl (lv_at hl 3 rfl) ?_
    refine lv_iconst (v := (-1 : Int32)) hx hb dX5_grow_25 (by decide) ?_
    obtain ⟨c2, h⟩ := gchk_e h
    refine g_iast hx hb E hM hS hk_8 dd_8 c2 dX5_grow_26 (fun H locs hM hS => ?_)
    refine lv_iinc (v := (x3 + (1 : Int32))) (lv' := [(3, .int (x3 + (1 : Int32))), (0, .ref (ad 7)), (1, .ref (ad 34)), (2, .int x2)]) hx hb dX5_grow_27 hl (k := 3) rfl rfl (by decide) rfl (fun ls hl => ?_)
    refine lv_goto (tgt := 12) hx hb dX5_grow_30 (by decide) ?_
    exact kc _ (Option.some.inj h).symm hM hS (lv_sub hl [1, 2, 3, 0] rfl)
set_option maxHeartbeats 4000000 in
theorem wl_X5_grow_12 {p : Program} {l : Launch} {e : Env} {s : State} {m : MethodId} {args : Array Value} {below : List Frame} {meth : Method} {c : Code} {D : va_G} {cy : Nat → ClassId} {ad : Nat → Nat} {base : gBs} {x2 : Int32} {r : gM} {RES : gM} (F : gF p s m meth c cX5_grow RX5 4 none) (E : gEnv l D cy ad base s) (kx : ∀ (t : gM) {H : Heap} {locs : List Loc} {ls : Array Slot}, r = t → gW gFull D cy ad base t H → va_S (gA base) s.heap H locs → lv_has ls 4 [(0, .ref (ad 7)), (1, .ref (ad 34)), (2, .int x2)] → W p l e ({ frames := 2, cells := 0, slots := 0, locals := 51 } : Room) s m args below meth c H locs 0 0 (MQ below (gQ none gFull D cy ad base RES) args s 0 0 (gA base)) (F0 m 33 ls []))  : ∀ (n : Nat) (x3 : Int32) (μ : gM), gloop (fun t => b_X5_grow_12 x2 t.1 t.2) n (x3, μ) = some r → ∀ {H : Heap} {locs : List Loc} {ls : Array Slot}, gW gFull D cy ad base μ H → va_S (gA base) s.heap H locs → lv_has ls 4 [(0, .ref (ad 7)), (1, .ref (ad 34)), (2, .int x2), (3, .int x3)] → W p l e ({ frames := 2, cells := 0, slots := 0, locals := 51 } : Room) s m args below meth c H locs 0 0 (MQ below (gQ none gFull D cy ad base RES) args s 0 0 (gA base)) (F0 m 12 ls []) := by
  intro n
  induction n with
  | zero =>
    intro x3 μ h
    exact (gloop_0 h).elim
  | succ n ih =>
    intro x3 μ h H locs ls hM hS hl
    obtain ⟨o, h0, hc, hq⟩ := gloop_s h
    have h1 : b_X5_grow_12 x2 x3 μ = some o := h0
    exact wb_X5_grow_12 h1 F E (fun t H locs ls ho hM hS hl => ih t.1 t.2 (hc t ho) hM hS hl) (fun t H locs ls ho hM hS hl => kx t (hq _ ho).symm hM hS hl) hM hS hl
def b_X5_grow_35 (x2 : Int32) (x3 : Int32) (μ : gM) : Option ((Int32 × gM) ⊕ (gM)) :=
  if ((gi μ 34 1) ≤ x3) then some (.inr μ) else gchk (gIn x3 16) (if ((gi μ 8 x3.toNatClampNeg) = (-1 : Int32)) then Option.bind (f_X5_spread x2 x3 (si μ 7 6 ((gi μ 7 6) + (1 : Int32)))) (fun q7 => some (.inl ((x3 + (1 : Int32)), q7))) else some (.inl ((x3 + (1 : Int32)), μ)))
set_option maxHeartbeats 4000000 in
set_option maxRecDepth 100000 in
theorem wb_X5_grow_35 {p : Program} {l : Launch} {e : Env} {s : State} {m : MethodId} {args : Array Value} {below : List Frame} {meth : Method} {c : Code} {D : va_G} {cy : Nat → ClassId} {ad : Nat → Nat} {base : gBs} {x2 : Int32} {x3 : Int32} {μ : gM} {o : (Int32 × gM) ⊕ (gM)} {RES : gM} (h : b_X5_grow_35 x2 x3 μ = some o) (F : gF p s m meth c cX5_grow RX5 4 none) (E : gEnv l D cy ad base s) (kc : ∀ (t : Int32 × gM) {H : Heap} {locs : List Loc} {ls : Array Slot}, o = .inl t → gW gFull D cy ad base t.2 H → va_S (gA base) s.heap H locs → lv_has ls 4 [(0, .ref (ad 7)), (1, .ref (ad 34)), (2, .int x2), (3, .int t.1)] → W p l e ({ frames := 2, cells := 0, slots := 0, locals := 51 } : Room) s m args below meth c H locs 0 0 (MQ below (gQ none gFull D cy ad base RES) args s 0 0 (gA base)) (F0 m 35 ls [])) (kx : ∀ (t : gM) {H : Heap} {locs : List Loc} {ls : Array Slot}, o = .inr t → gW gFull D cy ad base t H → va_S (gA base) s.heap H locs → lv_has ls 4 [] → W p l e ({ frames := 2, cells := 0, slots := 0, locals := 51 } : Room) s m args below meth c H locs 0 0 (MQ below (gQ none gFull D cy ad base RES) args s 0 0 (gA base)) (F0 m 76 ls []))  {H : Heap} {locs : List Loc} {ls : Array Slot} (hM : gW gFull D cy ad base μ H) (hS : va_S (gA base) s.heap H locs) (hl : lv_has ls 4 [(0, .ref (ad 7)), (1, .ref (ad 34)), (2, .int x2), (3, .int x3)]) : W p l e ({ frames := 2, cells := 0, slots := 0, locals := 51 } : Room) s m args below meth c H locs 0 0 (MQ below (gQ none gFull D cy ad base RES) args s 0 0 (gA base)) (F0 m 35 ls []) := by
  obtain ⟨hx, hb, hml, hown, hlocks, hr⟩ := id F
  unfold b_X5_grow_35 at h
  refine lv_iload_n hx hb dX5_grow_35 rfl (lv_at hl 3 rfl) ?_
  refine lv_aload_n hx hb dX5_grow_36 rfl (lv_at hl 1 rfl) ?_
  refine gg_34_1 hx hb hown E hM hk_34 kw_395 dX5_grow_37 ?_
  refine lv_icmp_ge (tgt := 76) hx hb dX5_grow_40 (by decide) (fun c4 => ?_) (fun c4 => ?_)
  · replace h := gif_t c4 h
    exact kx _ (Option.some.inj h).symm hM hS (lv_sub hl [] rfl)
  · replace h := gif_f c4 h
    refine lv_aload_n hx hb dX5_grow_43 rfl (lv_at hl 0 rfl) ?_
    refine gg_7_0 hx hb hown E hM hk_7 kw_243 dX5_grow_44 ?_
    refine lv_iload_n hx hb dX5_grow_47 rfl (lv_at hl 3 rfl) ?_
    obtain ⟨c5, h⟩ := gchk_e h
    refine g_iald hx hb E hM hk_8 dd_8 c5 dX5_grow_48 ?_
    refine lv_iconst (v := (-1 : Int32)) hx hb dX5_grow_49 (by decide) ?_
    refine lv_icmp_ne (tgt := 70) hx hb dX5_grow_50 (by decide) (fun c6 => ?_) (fun c6 => ?_)
    · replace h := gif_f c6 h
      refine lv_iinc (v := (x3 + (1 : Int32))) (lv' := [(3, .int (x3 + (1 : Int32))), (0, .ref (ad 7)), (1, .ref (ad 34)), (2, .int x2)]) hx hb dX5_grow_70 hl (k := 3) rfl rfl (by decide) rfl (fun ls hl => ?_)
      refine lv_goto (tgt := 35) hx hb dX5_grow_73 (by decide) ?_
      exact kc _ (Option.some.inj h).symm hM hS (lv_sub hl [1, 2, 3, 0] rfl)
    · replace h := gif_t c6 h
      refine lv_aload_n hx hb dX5_grow_53 rfl (lv_at hl 0 rfl) ?_
      refine lv_dup hx hb dX5_grow_54 rfl ?_
      refine gg_7_6 hx hb hown E hM hk_7 kw_255 dX5_grow_55 ?_
      refine lv_iconst (v := (1 : Int32)) hx hb dX5_grow_58 (by decide) ?_
      refine lv_iadd hx hb dX5_grow_59 ?_
      refine gp_7_6 hx hb hown E hM hS hk_7 kw_255 dX5_grow_60 (fun H locs hM hS => ?_)
      refine lv_aload_n hx hb dX5_grow_63 rfl (lv_at hl 0 rfl) ?_
      refine lv_aload_n hx hb dX5_grow_64 rfl (lv_at hl 1 rfl) ?_
      refine lv_iload_n hx hb dX5_grow_65 rfl (lv_at hl 2 rfl) ?_
      refine lv_iload_n hx hb dX5_grow_66 rfl (lv_at hl 3 rfl) ?_
      obtain ⟨q7, hq7, h⟩ := gbind_e h
      refine g_callV (As := [.ref (ad 34), .int x2, .int x3]) (rest := []) hx hb (hml.trans hl.1.symm) hown E hM hS hy_X5_spread kw_1244 (c_X5_spread hq7) hk_7 dd_7 rfl rfl rfl (Nat.le_of_ble_eq_true rfl) ⟨Nat.le_of_ble_eq_true rfl, Nat.le_of_ble_eq_true rfl⟩ ⟨Nat.le_of_ble_eq_true rfl, Nat.le_of_ble_eq_true rfl⟩ dX5_grow_67 (fun H locs hM hS => ?_)
      refine lv_iinc (v := (x3 + (1 : Int32))) (lv' := [(3, .int (x3 + (1 : Int32))), (0, .ref (ad 7)), (1, .ref (ad 34)), (2, .int x2)]) hx hb dX5_grow_70 hl (k := 3) rfl rfl (by decide) rfl (fun ls hl => ?_)
      refine lv_goto (tgt := 35) hx hb dX5_grow_73 (by decide) ?_
      exact kc _ (Option.some.inj h).symm hM hS (lv_sub hl [1, 2, 3, 0] rfl)
set_option maxHeartbeats 4000000 in
theorem wl_X5_grow_35 {p : Program} {l : Launch} {e : Env} {s : State} {m : MethodId} {args : Array Value} {below : List Frame} {meth : Method} {c : Code} {D : va_G} {cy : Nat → ClassId} {ad : Nat → Nat} {base : gBs} {x2 : Int32} {r : gM} {RES : gM} (F : gF p s m meth c cX5_grow RX5 4 none) (E : gEnv l D cy ad base s) (kx : ∀ (t : gM) {H : Heap} {locs : List Loc} {ls : Array Slot}, r = t → gW gFull D cy ad base t H → va_S (gA base) s.heap H locs → lv_has ls 4 [] → W p l e ({ frames := 2, cells := 0, slots := 0, locals := 51 } : Room) s m args below meth c H locs 0 0 (MQ below (gQ none gFull D cy ad base RES) args s 0 0 (gA base)) (F0 m 76 ls []))  : ∀ (n : Nat) (x3 : Int32) (μ : gM), gloop (fun t => b_X5_grow_35 x2 t.1 t.2) n (x3, μ) = some r → ∀ {H : Heap} {locs : List Loc} {ls : Array Slot}, gW gFull D cy ad base μ H → va_S (gA base) s.heap H locs → lv_has ls 4 [(0, .ref (ad 7)), (1, .ref (ad 34)), (2, .int x2), (3, .int x3)] → W p l e ({ frames := 2, cells := 0, slots := 0, locals := 51 } : Room) s m args below meth c H locs 0 0 (MQ below (gQ none gFull D cy ad base RES) args s 0 0 (gA base)) (F0 m 35 ls []) := by
  intro n
  induction n with
  | zero =>
    intro x3 μ h
    exact (gloop_0 h).elim
  | succ n ih =>
    intro x3 μ h H locs ls hM hS hl
    obtain ⟨o, h0, hc, hq⟩ := gloop_s h
    have h1 : b_X5_grow_35 x2 x3 μ = some o := h0
    exact wb_X5_grow_35 h1 F E (fun t H locs ls ho hM hS hl => ih t.1 t.2 (hc t ho) hM hS hl) (fun t H locs ls ho hM hS hl => kx t (hq _ ho).symm hM hS hl) hM hS hl
def f_X5_grow (p2 : Int32) (μ : gM) : Option (gM) :=
  Option.bind (gloop (fun t => b_X5_grow_12 p2 t.1 t.2) gFuel ((0 : Int32), (si (si μ 7 5 (0 : Int32)) 7 6 (0 : Int32)))) (fun q3 => Option.bind (gloop (fun t => b_X5_grow_35 p2 t.1 t.2) gFuel ((0 : Int32), q3)) (fun q8 => some q8))
set_option maxHeartbeats 4000000 in
set_option maxRecDepth 100000 in
theorem c_X5_grow {l : Launch} {D : va_G} {cy : Nat → ClassId} {ad : Nat → Nat} {base : gBs} {p2 : Int32} {μ : gM} {RES : gM} (h : f_X5_grow p2 μ = some RES) : Met l yX5_grow [.code yX5_grow cX5_grow 4 none] ({ frames := 2, cells := 0, slots := 0, locals := 51 } : Room) (va_Pc [.ref (ad 7), .ref (ad 34), .int p2] (gB l gFull D cy ad base μ)) (gQ none gFull D cy ad base RES) 0 0 (gA base) := by
  refine Met.ofW (cc := cX5_grow) (maxL := 4) (ret := none) (by decide) rfl ?_
  intro p e s m args below meth c s₁ B hml0 hv
  obtain ⟨rfl, E, hM⟩ := hv
  have F : gF p s m meth c cX5_grow RX5 4 none := gF_of B hml0
  obtain ⟨hx, hb, hml, hown, hlocks, hr⟩ := id F
  have hS : va_S (gA base) s.heap s.heap [] := va_S.rf
  have hl := lv_entry ([.ref (ad 7), .ref (ad 34), .int p2]) (n := 4) (Nat.le_of_ble_eq_true rfl)
  rw [lg_entry_eq]
  generalize (lg_sl ([.ref (ad 7), .ref (ad 34), .int p2]) ++ List.replicate (4 - (lg_sl ([.ref (ad 7), .ref (ad 34), .int p2])).length) Slot.unset).toArray = ls at hl ⊢
  have hl : lv_has ls 4 [(0, .ref (ad 7)), (1, .ref (ad 34)), (2, .int p2)] := hl
  unfold f_X5_grow at h
  refine lv_aload_n hx hb dX5_grow_0 rfl (lv_at hl 0 rfl) ?_
  refine lv_iconst (v := (0 : Int32)) hx hb dX5_grow_1 (by decide) ?_
  refine gp_7_5 hx hb hown E hM hS hk_7 kw_252 dX5_grow_2 (fun H locs hM hS => ?_)
  refine lv_aload_n hx hb dX5_grow_5 rfl (lv_at hl 0 rfl) ?_
  refine lv_iconst (v := (0 : Int32)) hx hb dX5_grow_6 (by decide) ?_
  refine gp_7_6 hx hb hown E hM hS hk_7 kw_255 dX5_grow_7 (fun H locs hM hS => ?_)
  refine lv_iconst (v := (0 : Int32)) hx hb dX5_grow_10 (by decide) ?_
  refine lv_istore_n (lv' := [(3, .int (0 : Int32)), (0, .ref (ad 7)), (1, .ref (ad 34)), (2, .int p2)]) hx hb dX5_grow_11 rfl hl (by decide) rfl (fun ls hl => ?_)
  obtain ⟨z10, h1, h⟩ := gbind_e h
  refine wl_X5_grow_12 F E (r := z10) (fun q3 H locs ls e1 hM hS hl => ?_) gFuel (0 : Int32) (si (si μ 7 5 (0 : Int32)) 7 6 (0 : Int32)) h1 hM hS (lv_sub hl [1, 2, 3, 0] rfl)
  replace e1 : z10 = q3 := e1
  rw [e1] at h
  refine lv_iconst (v := (0 : Int32)) hx hb dX5_grow_33 (by decide) ?_
  refine lv_istore_n (lv' := [(3, .int (0 : Int32)), (0, .ref (ad 7)), (1, .ref (ad 34)), (2, .int p2)]) hx hb dX5_grow_34 rfl hl (by decide) rfl (fun ls hl => ?_)
  obtain ⟨z9, h1, h⟩ := gbind_e h
  refine wl_X5_grow_35 F E (r := z9) (fun q8 H locs ls e1 hM hS hl => ?_) gFuel (0 : Int32) q3 h1 hM hS (lv_sub hl [1, 2, 3, 0] rfl)
  replace e1 : z9 = q8 := e1
  rw [e1] at h
  obtain rfl := Option.some.inj h
  exact g_vret hx hb hr hlocks hM hS dX5_grow_76
def f_X2_stepFrom (p2 : Int32) (p3 : Int32) (μ : gM) : Option (Int32) :=
  gchk (gIn p2 20) (if ((gi μ 40 p2.toNatClampNeg) = p3) then some p2 else some (p2 + (100 : Int32)))
set_option maxHeartbeats 4000000 in
set_option maxRecDepth 100000 in
theorem c_X2_stepFrom {l : Launch} {D : va_G} {cy : Nat → ClassId} {ad : Nat → Nat} {base : gBs} {p2 : Int32} {p3 : Int32} {μ : gM} {RES : Int32} (h : f_X2_stepFrom p2 p3 μ = some RES) : Met l yX2_stepFrom [.code yX2_stepFrom cX2_stepFrom 4 (some .int)] ({ frames := 0, cells := 0, slots := 0, locals := 0 } : Room) (va_Pc [.ref (ad 6), .ref (ad 34), .int p2, .int p3] (gB l gFull D cy ad base μ)) (gQ (some (.int RES)) gFull D cy ad base μ) 0 0 (gA base) := by
  refine Met.ofW (cc := cX2_stepFrom) (maxL := 4) (ret := (some .int)) (by decide) rfl ?_
  intro p e s m args below meth c s₁ B hml0 hv
  obtain ⟨rfl, E, hM⟩ := hv
  have F : gF p s m meth c cX2_stepFrom RX2 4 (some .int) := gF_of B hml0
  obtain ⟨hx, hb, hml, hown, hlocks, hr⟩ := id F
  have hS : va_S (gA base) s.heap s.heap [] := va_S.rf
  have hl := lv_entry ([.ref (ad 6), .ref (ad 34), .int p2, .int p3]) (n := 4) (Nat.le_of_ble_eq_true rfl)
  rw [lg_entry_eq]
  generalize (lg_sl ([.ref (ad 6), .ref (ad 34), .int p2, .int p3]) ++ List.replicate (4 - (lg_sl ([.ref (ad 6), .ref (ad 34), .int p2, .int p3])).length) Slot.unset).toArray = ls at hl ⊢
  have hl : lv_has ls 4 [(0, .ref (ad 6)), (1, .ref (ad 34)), (2, .int p2), (3, .int p3)] := hl
  unfold f_X2_stepFrom at h
  refine lv_aload_n hx hb dX2_stepFrom_0 rfl (lv_at hl 1 rfl) ?_
  refine gg_34_10 hx hb hown E hM hk_34 kw_428 dX2_stepFrom_1 ?_
  refine lv_iload_n hx hb dX2_stepFrom_4 rfl (lv_at hl 2 rfl) ?_
  obtain ⟨c1, h⟩ := gchk_e h
  refine g_iald hx hb E hM hk_40 dd_40 c1 dX2_stepFrom_5 ?_
  refine lv_iload_n hx hb dX2_stepFrom_6 rfl (lv_at hl 3 rfl) ?_
  refine lv_icmp_ne (tgt := 14) hx hb dX2_stepFrom_7 (by decide) (fun c2 => ?_) (fun c2 => ?_)
  · replace h := gif_f c2 h
    refine lv_iload_n hx hb dX2_stepFrom_14 rfl (lv_at hl 2 rfl) ?_
    refine lv_bipush (v := (100 : Int32)) hx hb dX2_stepFrom_15 (by decide) ?_
    refine lv_iadd hx hb dX2_stepFrom_17 ?_
    obtain rfl := Option.some.inj h
    exact g_iret hx hb hr hlocks hM hS dX2_stepFrom_18
  · replace h := gif_t c2 h
    refine lv_iload_n hx hb dX2_stepFrom_10 rfl (lv_at hl 2 rfl) ?_
    refine lv_goto (tgt := 18) hx hb dX2_stepFrom_11 (by decide) ?_
    obtain rfl := Option.some.inj h
    exact g_iret hx hb hr hlocks hM hS dX2_stepFrom_18
def j_X2_walk_89 (x3 : Int32) (x4 : Int32) (x5 : Int32) (x6 : Int32) (x7 : Int32) (y0 : Int32) (μ : gM) : Option ((Int32 × Int32 × Int32 × Int32 × gM) ⊕ (Int32 × gM)) :=
  gchk (gIn y0 16) (gchk (gIn y0 16) (if ((gi μ 9 y0.toNatClampNeg) = (-1 : Int32)) then some (.inr (x3, μ)) else if (x7 = 0) then Option.bind (f_X2_stepFrom (gi μ 9 y0.toNatClampNeg) (gi μ 10 y0.toNatClampNeg) μ) (fun q14 => gchk (gIn x3 16) (some (.inl ((x3 + (1 : Int32)), x4, (gi μ 10 y0.toNatClampNeg), (x6 + (1 : Int32)), (si μ 19 x3.toNatClampNeg q14))))) else Option.bind (f_X2_stepFrom (gi μ 9 y0.toNatClampNeg) x4 μ) (fun q16 => gchk (gIn (gi μ 6 8) 17) (some (.inl (x3, (gi μ 10 y0.toNatClampNeg), x5, (x6 + (1 : Int32)), (si (si μ 18 (gi μ 6 8).toNatClampNeg q16) 6 8 ((gi (si μ 18 (gi μ 6 8).toNatClampNeg q16) 6 8) + (1 : Int32)))))))))
set_option maxHeartbeats 4000000 in
set_option maxRecDepth 100000 in
theorem wj_X2_walk_89 {p : Program} {l : Launch} {e : Env} {s : State} {m : MethodId} {args : Array Value} {below : List Frame} {meth : Method} {c : Code} {D : va_G} {cy : Nat → ClassId} {ad : Nat → Nat} {base : gBs} {x3 : Int32} {x4 : Int32} {x5 : Int32} {x6 : Int32} {x7 : Int32} {y0 : Int32} {μ : gM} {o : (Int32 × Int32 × Int32 × Int32 × gM) ⊕ (Int32 × gM)} {RES : gM} (h : j_X2_walk_89 x3 x4 x5 x6 x7 y0 μ = some o) (F : gF p s m meth c cX2_walk RX2 11 none) (E : gEnv l D cy ad base s) (kc : ∀ (t : Int32 × Int32 × Int32 × Int32 × gM) {H : Heap} {locs : List Loc} {ls : Array Slot}, o = .inl t → gW gFull D cy ad base t.2.2.2.2 H → va_S (gA base) s.heap H locs → lv_has ls 11 [(0, .ref (ad 6)), (1, .ref (ad 34)), (3, .int t.1), (4, .int t.2.1), (5, .int t.2.2.1), (6, .int t.2.2.2.1)] → W p l e ({ frames := 1, cells := 0, slots := 0, locals := 23 } : Room) s m args below meth c H locs 0 0 (MQ below (gQ none gFull D cy ad base RES) args s 0 0 (gA base)) (F0 m 33 ls [])) (kx : ∀ (t : Int32 × gM) {H : Heap} {locs : List Loc} {ls : Array Slot}, o = .inr t → gW gFull D cy ad base t.2 H → va_S (gA base) s.heap H locs → lv_has ls 11 [(0, .ref (ad 6)), (3, .int t.1)] → W p l e ({ frames := 1, cells := 0, slots := 0, locals := 23 } : Room) s m args below meth c H locs 0 0 (MQ below (gQ none gFull D cy ad base RES) args s 0 0 (gA base)) (F0 m 192 ls []))  {H : Heap} {locs : List Loc} {ls : Array Slot} (hM : gW gFull D cy ad base μ H) (hS : va_S (gA base) s.heap H locs) (hl : lv_has ls 11 [(0, .ref (ad 6)), (1, .ref (ad 34)), (3, .int x3), (4, .int x4), (5, .int x5), (6, .int x6), (7, .int x7)]) : W p l e ({ frames := 1, cells := 0, slots := 0, locals := 23 } : Room) s m args below meth c H locs 0 0 (MQ below (gQ none gFull D cy ad base RES) args s 0 0 (gA base)) (F0 m 89 ls [.int y0]) := by
  obtain ⟨hx, hb, hml, hown, hlocks, hr⟩ := id F
  unfold j_X2_walk_89 at h
  refine lv_istore (lv' := [(8, .int y0), (0, .ref (ad 6)), (1, .ref (ad 34)), (3, .int x3), (4, .int x4), (5, .int x5), (6, .int x6), (7, .int x7)]) hx hb dX2_walk_89 hl (by decide) rfl (fun ls hl => ?_)
  refine lv_aload_n hx hb dX2_walk_91 rfl (lv_at hl 1 rfl) ?_
  refine gg_6_0 hx hb hown E hM hk_6 kw_272 dX2_walk_92 ?_
  refine gg_7_2 hx hb hown E hM hk_7 kw_248 dX2_walk_95 ?_
  refine lv_iload hx hb dX2_walk_98 (lv_at hl 0 rfl) ?_
  obtain ⟨c10, h⟩ := gchk_e h
  refine g_iald hx hb E hM hk_10 dd_10 c10 dX2_walk_100 ?_
  refine lv_istore (lv' := [(9, .int (gi μ 10 y0.toNatClampNeg)), (8, .int y0), (0, .ref (ad 6)), (1, .ref (ad 34)), (3, .int x3), (4, .int x4), (5, .int x5), (6, .int x6), (7, .int x7)]) hx hb dX2_walk_101 hl (by decide) rfl (fun ls hl => ?_)
  refine lv_aload_n hx hb dX2_walk_103 rfl (lv_at hl 2 rfl) ?_
  refine gg_6_0 hx hb hown E hM hk_6 kw_272 dX2_walk_104 ?_
  refine gg_7_1 hx hb hown E hM hk_7 kw_246 dX2_walk_107 ?_
  refine lv_iload hx hb dX2_walk_110 (lv_at hl 1 rfl) ?_
  obtain ⟨c11, h⟩ := gchk_e h
  refine g_iald hx hb E hM hk_9 dd_9 c11 dX2_walk_112 ?_
  refine lv_istore (lv' := [(10, .int (gi μ 9 y0.toNatClampNeg)), (9, .int (gi μ 10 y0.toNatClampNeg)), (8, .int y0), (0, .ref (ad 6)), (1, .ref (ad 34)), (3, .int x3), (4, .int x4), (5, .int x5), (6, .int x6), (7, .int x7)]) hx hb dX2_walk_113 hl (by decide) rfl (fun ls hl => ?_)
  refine lv_iload hx hb dX2_walk_115 (lv_at hl 0 rfl) ?_
  refine lv_iconst (v := (-1 : Int32)) hx hb dX2_walk_117 (by decide) ?_
  refine lv_icmp_ne (tgt := 124) hx hb dX2_walk_118 (by decide) (fun c12 => ?_) (fun c12 => ?_)
  · replace h := gif_f c12 h
    refine lv_iload hx hb dX2_walk_124 (lv_at hl 9 rfl) ?_
    refine lv_if_eq (tgt := 164) hx hb dX2_walk_126 (by decide) (fun c13 => ?_) (fun c13 => ?_)
    · replace h := gif_t c13 h
      refine lv_aload_n hx hb dX2_walk_164 rfl (lv_at hl 3 rfl) ?_
      refine gg_6_9 hx hb hown E hM hk_6 kw_290 dX2_walk_165 ?_
      refine lv_iload_n hx hb dX2_walk_168 rfl (lv_at hl 5 rfl) ?_
      refine lv_aload_n hx hb dX2_walk_169 rfl (lv_at hl 3 rfl) ?_
      refine lv_aload_n hx hb dX2_walk_170 rfl (lv_at hl 4 rfl) ?_
      refine lv_iload hx hb dX2_walk_171 (lv_at hl 0 rfl) ?_
      refine lv_iload hx hb dX2_walk_173 (lv_at hl 1 rfl) ?_
      obtain ⟨q14, hq14, h⟩ := gbind_e h
      refine g_callV (As := [.ref (ad 34), .int (gi μ 9 y0.toNatClampNeg), .int (gi μ 10 y0.toNatClampNeg)]) (rest := [.int x3, .ref (ad 19)]) hx hb (hml.trans hl.1.symm) hown E hM hS hy_X2_stepFrom kw_1308 (c_X2_stepFrom hq14) hk_6 dd_6 rfl rfl rfl (Nat.le_of_ble_eq_true rfl) ⟨Nat.le_of_ble_eq_true rfl, Nat.le_of_ble_eq_true rfl⟩ ⟨Nat.le_of_ble_eq_true rfl, Nat.le_of_ble_eq_true rfl⟩ dX2_walk_175 (fun H locs hM hS => ?_)
      obtain ⟨c15, h⟩ := gchk_e h
      refine g_iast hx hb E hM hS hk_19 dd_19 c15 dX2_walk_178 (fun H locs hM hS => ?_)
      refine lv_iinc (v := (x3 + (1 : Int32))) (lv' := [(3, .int (x3 + (1 : Int32))), (10, .int (gi μ 9 y0.toNatClampNeg)), (9, .int (gi μ 10 y0.toNatClampNeg)), (8, .int y0), (0, .ref (ad 6)), (1, .ref (ad 34)), (4, .int x4), (5, .int x5), (6, .int x6), (7, .int x7)]) hx hb dX2_walk_179 hl (k := 5) rfl rfl (by decide) rfl (fun ls hl => ?_)
      refine lv_iload hx hb dX2_walk_182 (lv_at hl 2 rfl) ?_
      refine lv_istore (lv' := [(5, .int (gi μ 10 y0.toNatClampNeg)), (3, .int (x3 + (1 : Int32))), (10, .int (gi μ 9 y0.toNatClampNeg)), (9, .int (gi μ 10 y0.toNatClampNeg)), (8, .int y0), (0, .ref (ad 6)), (1, .ref (ad 34)), (4, .int x4), (6, .int x6), (7, .int x7)]) hx hb dX2_walk_184 hl (by decide) rfl (fun ls hl => ?_)
      refine lv_iinc (v := (x6 + (1 : Int32))) (lv' := [(6, .int (x6 + (1 : Int32))), (5, .int (gi μ 10 y0.toNatClampNeg)), (3, .int (x3 + (1 : Int32))), (10, .int (gi μ 9 y0.toNatClampNeg)), (9, .int (gi μ 10 y0.toNatClampNeg)), (8, .int y0), (0, .ref (ad 6)), (1, .ref (ad 34)), (4, .int x4), (7, .int x7)]) hx hb dX2_walk_186 hl (k := 8) rfl rfl (by decide) rfl (fun ls hl => ?_)
      refine lv_goto (tgt := 33) hx hb dX2_walk_189 (by decide) ?_
      exact kc _ (Option.some.inj h).symm hM hS (lv_sub hl [6, 7, 2, 8, 1, 0] rfl)
    · replace h := gif_f c13 h
      refine lv_aload_n hx hb dX2_walk_129 rfl (lv_at hl 3 rfl) ?_
      refine gg_6_7 hx hb hown E hM hk_6 kw_286 dX2_walk_130 ?_
      refine lv_aload_n hx hb dX2_walk_133 rfl (lv_at hl 3 rfl) ?_
      refine gg_6_8 hx hb hown E hM hk_6 kw_288 dX2_walk_134 ?_
      refine lv_aload_n hx hb dX2_walk_137 rfl (lv_at hl 3 rfl) ?_
      refine lv_aload_n hx hb dX2_walk_138 rfl (lv_at hl 4 rfl) ?_
      refine lv_iload hx hb dX2_walk_139 (lv_at hl 0 rfl) ?_
      refine lv_iload hx hb dX2_walk_141 (lv_at hl 6 rfl) ?_
      obtain ⟨q16, hq16, h⟩ := gbind_e h
      refine g_callV (As := [.ref (ad 34), .int (gi μ 9 y0.toNatClampNeg), .int x4]) (rest := [.int (gi μ 6 8), .ref (ad 18)]) hx hb (hml.trans hl.1.symm) hown E hM hS hy_X2_stepFrom kw_1308 (c_X2_stepFrom hq16) hk_6 dd_6 rfl rfl rfl (Nat.le_of_ble_eq_true rfl) ⟨Nat.le_of_ble_eq_true rfl, Nat.le_of_ble_eq_true rfl⟩ ⟨Nat.le_of_ble_eq_true rfl, Nat.le_of_ble_eq_true rfl⟩ dX2_walk_143 (fun H locs hM hS => ?_)
      obtain ⟨c17, h⟩ := gchk_e h
      refine g_iast hx hb E hM hS hk_18 dd_18 c17 dX2_walk_146 (fun H locs hM hS => ?_)
      refine lv_aload_n hx hb dX2_walk_147 rfl (lv_at hl 3 rfl) ?_
      refine lv_dup hx hb dX2_walk_148 rfl ?_
      refine gg_6_8 hx hb hown E hM hk_6 kw_288 dX2_walk_149 ?_
      refine lv_iconst (v := (1 : Int32)) hx hb dX2_walk_152 (by decide) ?_
      refine lv_iadd hx hb dX2_walk_153 ?_
      refine gp_6_8 hx hb hown E hM hS hk_6 kw_288 dX2_walk_154 (fun H locs hM hS => ?_)
      refine lv_iload hx hb dX2_walk_157 (lv_at hl 1 rfl) ?_
      refine lv_istore (lv' := [(4, .int (gi μ 10 y0.toNatClampNeg)), (10, .int (gi μ 9 y0.toNatClampNeg)), (9, .int (gi μ 10 y0.toNatClampNeg)), (8, .int y0), (0, .ref (ad 6)), (1, .ref (ad 34)), (3, .int x3), (5, .int x5), (6, .int x6), (7, .int x7)]) hx hb dX2_walk_159 hl (by decide) rfl (fun ls hl => ?_)
      refine lv_goto (tgt := 186) hx hb dX2_walk_161 (by decide) ?_
      refine lv_iinc (v := (x6 + (1 : Int32))) (lv' := [(6, .int (x6 + (1 : Int32))), (4, .int (gi μ 10 y0.toNatClampNeg)), (10, .int (gi μ 9 y0.toNatClampNeg)), (9, .int (gi μ 10 y0.toNatClampNeg)), (8, .int y0), (0, .ref (ad 6)), (1, .ref (ad 34)), (3, .int x3), (5, .int x5), (7, .int x7)]) hx hb dX2_walk_186 hl (k := 8) rfl rfl (by decide) rfl (fun ls hl => ?_)
      refine lv_goto (tgt := 33) hx hb dX2_walk_189 (by decide) ?_
      exact kc _ (Option.some.inj h).symm hM hS (lv_sub hl [5, 6, 7, 1, 8, 0] rfl)
  · replace h := gif_t c12 h
    refine lv_goto (tgt := 192) hx hb dX2_walk_121 (by decide) ?_
    exact kx _ (Option.some.inj h).symm hM hS (lv_sub hl [3, 5] rfl)
def j_X2_walk_75 (x3 : Int32) (x4 : Int32) (x5 : Int32) (x6 : Int32) (y0 : Int32) (μ : gM) : Option ((Int32 × Int32 × Int32 × Int32 × gM) ⊕ (Int32 × gM)) :=
  if (y0 = 0) then j_X2_walk_89 x3 x4 x5 x6 y0 x5 μ else j_X2_walk_89 x3 x4 x5 x6 y0 x4 μ
set_option maxHeartbeats 4000000 in
set_option maxRecDepth 100000 in
theorem wj_X2_walk_75 {p : Program} {l : Launch} {e : Env} {s : State} {m : MethodId} {args : Array Value} {below : List Frame} {meth : Method} {c : Code} {D : va_G} {cy : Nat → ClassId} {ad : Nat → Nat} {base : gBs} {x3 : Int32} {x4 : Int32} {x5 : Int32} {x6 : Int32} {y0 : Int32} {μ : gM} {o : (Int32 × Int32 × Int32 × Int32 × gM) ⊕ (Int32 × gM)} {RES : gM} (h : j_X2_walk_75 x3 x4 x5 x6 y0 μ = some o) (F : gF p s m meth c cX2_walk RX2 11 none) (E : gEnv l D cy ad base s) (kc : ∀ (t : Int32 × Int32 × Int32 × Int32 × gM) {H : Heap} {locs : List Loc} {ls : Array Slot}, o = .inl t → gW gFull D cy ad base t.2.2.2.2 H → va_S (gA base) s.heap H locs → lv_has ls 11 [(0, .ref (ad 6)), (1, .ref (ad 34)), (3, .int t.1), (4, .int t.2.1), (5, .int t.2.2.1), (6, .int t.2.2.2.1)] → W p l e ({ frames := 1, cells := 0, slots := 0, locals := 23 } : Room) s m args below meth c H locs 0 0 (MQ below (gQ none gFull D cy ad base RES) args s 0 0 (gA base)) (F0 m 33 ls [])) (kx : ∀ (t : Int32 × gM) {H : Heap} {locs : List Loc} {ls : Array Slot}, o = .inr t → gW gFull D cy ad base t.2 H → va_S (gA base) s.heap H locs → lv_has ls 11 [(0, .ref (ad 6)), (3, .int t.1)] → W p l e ({ frames := 1, cells := 0, slots := 0, locals := 23 } : Room) s m args below meth c H locs 0 0 (MQ below (gQ none gFull D cy ad base RES) args s 0 0 (gA base)) (F0 m 192 ls []))  {H : Heap} {locs : List Loc} {ls : Array Slot} (hM : gW gFull D cy ad base μ H) (hS : va_S (gA base) s.heap H locs) (hl : lv_has ls 11 [(0, .ref (ad 6)), (1, .ref (ad 34)), (3, .int x3), (4, .int x4), (5, .int x5), (6, .int x6)]) : W p l e ({ frames := 1, cells := 0, slots := 0, locals := 23 } : Room) s m args below meth c H locs 0 0 (MQ below (gQ none gFull D cy ad base RES) args s 0 0 (gA base)) (F0 m 75 ls [.int y0]) := by
  obtain ⟨hx, hb, hml, hown, hlocks, hr⟩ := id F
  unfold j_X2_walk_75 at h
  refine lv_istore (lv' := [(7, .int y0), (0, .ref (ad 6)), (1, .ref (ad 34)), (3, .int x3), (4, .int x4), (5, .int x5), (6, .int x6)]) hx hb dX2_walk_75 hl (by decide) rfl (fun ls hl => ?_)
  refine lv_iload hx hb dX2_walk_77 (lv_at hl 0 rfl) ?_
  refine lv_if_eq (tgt := 87) hx hb dX2_walk_79 (by decide) (fun c9 => ?_) (fun c9 => ?_)
  · replace h := gif_t c9 h
    refine lv_iload hx hb dX2_walk_87 (lv_at hl 5 rfl) ?_
    exact wj_X2_walk_89 h F E kc kx hM hS (lv_sub hl [1, 2, 3, 4, 5, 6, 0] rfl)
  · replace h := gif_f c9 h
    refine lv_iload hx hb dX2_walk_82 (lv_at hl 4 rfl) ?_
    refine lv_goto (tgt := 89) hx hb dX2_walk_84 (by decide) ?_
    exact wj_X2_walk_89 h F E kc kx hM hS (lv_sub hl [1, 2, 3, 4, 5, 6, 0] rfl)
def b_X2_walk_33 (x3 : Int32) (x4 : Int32) (x5 : Int32) (x6 : Int32) (μ : gM) : Option ((Int32 × Int32 × Int32 × Int32 × gM) ⊕ (Int32 × gM)) :=
  if ((16 : Int32) ≤ x6) then some (.inr (x3, μ)) else if (x4 = x5) then some (.inr (x3, μ)) else gchk (gIn x4 16) (gchk (gIn x5 16) (if ((gi μ 11 x4.toNatClampNeg) < (gi μ 11 x5.toNatClampNeg)) then j_X2_walk_75 x3 x4 x5 x6 (0 : Int32) μ else j_X2_walk_75 x3 x4 x5 x6 (1 : Int32) μ))
set_option maxHeartbeats 4000000 in
set_option maxRecDepth 100000 in
theorem wb_X2_walk_33 {p : Program} {l : Launch} {e : Env} {s : State} {m : MethodId} {args : Array Value} {below : List Frame} {meth : Method} {c : Code} {D : va_G} {cy : Nat → ClassId} {ad : Nat → Nat} {base : gBs} {x3 : Int32} {x4 : Int32} {x5 : Int32} {x6 : Int32} {μ : gM} {o : (Int32 × Int32 × Int32 × Int32 × gM) ⊕ (Int32 × gM)} {RES : gM} (h : b_X2_walk_33 x3 x4 x5 x6 μ = some o) (F : gF p s m meth c cX2_walk RX2 11 none) (E : gEnv l D cy ad base s) (kc : ∀ (t : Int32 × Int32 × Int32 × Int32 × gM) {H : Heap} {locs : List Loc} {ls : Array Slot}, o = .inl t → gW gFull D cy ad base t.2.2.2.2 H → va_S (gA base) s.heap H locs → lv_has ls 11 [(0, .ref (ad 6)), (1, .ref (ad 34)), (3, .int t.1), (4, .int t.2.1), (5, .int t.2.2.1), (6, .int t.2.2.2.1)] → W p l e ({ frames := 1, cells := 0, slots := 0, locals := 23 } : Room) s m args below meth c H locs 0 0 (MQ below (gQ none gFull D cy ad base RES) args s 0 0 (gA base)) (F0 m 33 ls [])) (kx : ∀ (t : Int32 × gM) {H : Heap} {locs : List Loc} {ls : Array Slot}, o = .inr t → gW gFull D cy ad base t.2 H → va_S (gA base) s.heap H locs → lv_has ls 11 [(0, .ref (ad 6)), (3, .int t.1)] → W p l e ({ frames := 1, cells := 0, slots := 0, locals := 23 } : Room) s m args below meth c H locs 0 0 (MQ below (gQ none gFull D cy ad base RES) args s 0 0 (gA base)) (F0 m 192 ls []))  {H : Heap} {locs : List Loc} {ls : Array Slot} (hM : gW gFull D cy ad base μ H) (hS : va_S (gA base) s.heap H locs) (hl : lv_has ls 11 [(0, .ref (ad 6)), (1, .ref (ad 34)), (3, .int x3), (4, .int x4), (5, .int x5), (6, .int x6)]) : W p l e ({ frames := 1, cells := 0, slots := 0, locals := 23 } : Room) s m args below meth c H locs 0 0 (MQ below (gQ none gFull D cy ad base RES) args s 0 0 (gA base)) (F0 m 33 ls []) := by
  obtain ⟨hx, hb, hml, hown, hlocks, hr⟩ := id F
  unfold b_X2_walk_33 at h
  refine lv_iload hx hb dX2_walk_33 (lv_at hl 5 rfl) ?_
  refine lv_bipush (v := (16 : Int32)) hx hb dX2_walk_35 (by decide) ?_
  refine lv_icmp_ge (tgt := 192) hx hb dX2_walk_37 (by decide) (fun c4 => ?_) (fun c4 => ?_)
  · replace h := gif_t c4 h
    exact kx _ (Option.some.inj h).symm hM hS (lv_sub hl [0, 2] rfl)
  · replace h := gif_f c4 h
    refine lv_iload hx hb dX2_walk_40 (lv_at hl 3 rfl) ?_
    refine lv_iload hx hb dX2_walk_42 (lv_at hl 4 rfl) ?_
    refine lv_icmp_eq (tgt := 192) hx hb dX2_walk_44 (by decide) (fun c5 => ?_) (fun c5 => ?_)
    · replace h := gif_t c5 h
      exact kx _ (Option.some.inj h).symm hM hS (lv_sub hl [0, 2] rfl)
    · replace h := gif_f c5 h
      refine lv_aload_n hx hb dX2_walk_47 rfl (lv_at hl 0 rfl) ?_
      refine gg_6_0 hx hb hown E hM hk_6 kw_272 dX2_walk_48 ?_
      refine gg_7_3 hx hb hown E hM hk_7 kw_250 dX2_walk_51 ?_
      refine lv_iload hx hb dX2_walk_54 (lv_at hl 3 rfl) ?_
      obtain ⟨c6, h⟩ := gchk_e h
      refine g_iald hx hb E hM hk_11 dd_11 c6 dX2_walk_56 ?_
      refine lv_aload_n hx hb dX2_walk_57 rfl (lv_at hl 0 rfl) ?_
      refine gg_6_0 hx hb hown E hM hk_6 kw_272 dX2_walk_58 ?_
      refine gg_7_3 hx hb hown E hM hk_7 kw_250 dX2_walk_61 ?_
      refine lv_iload hx hb dX2_walk_64 (lv_at hl 4 rfl) ?_
      obtain ⟨c7, h⟩ := gchk_e h
      refine g_iald hx hb E hM hk_11 dd_11 c7 dX2_walk_66 ?_
      refine lv_icmp_lt (tgt := 74) hx hb dX2_walk_67 (by decide) (fun c8 => ?_) (fun c8 => ?_)
      · replace h := gif_t c8 h
        refine lv_iconst (v := (0 : Int32)) hx hb dX2_walk_74 (by decide) ?_
        exact wj_X2_walk_75 h F E kc kx hM hS hl
      · replace h := gif_f c8 h
        refine lv_iconst (v := (1 : Int32)) hx hb dX2_walk_70 (by decide) ?_
        refine lv_goto (tgt := 75) hx hb dX2_walk_71 (by decide) ?_
        exact wj_X2_walk_75 h F E kc kx hM hS hl
set_option maxHeartbeats 4000000 in
theorem wl_X2_walk_33 {p : Program} {l : Launch} {e : Env} {s : State} {m : MethodId} {args : Array Value} {below : List Frame} {meth : Method} {c : Code} {D : va_G} {cy : Nat → ClassId} {ad : Nat → Nat} {base : gBs}  {r : Int32 × gM} {RES : gM} (F : gF p s m meth c cX2_walk RX2 11 none) (E : gEnv l D cy ad base s) (kx : ∀ (t : Int32 × gM) {H : Heap} {locs : List Loc} {ls : Array Slot}, r = t → gW gFull D cy ad base t.2 H → va_S (gA base) s.heap H locs → lv_has ls 11 [(0, .ref (ad 6)), (3, .int t.1)] → W p l e ({ frames := 1, cells := 0, slots := 0, locals := 23 } : Room) s m args below meth c H locs 0 0 (MQ below (gQ none gFull D cy ad base RES) args s 0 0 (gA base)) (F0 m 192 ls []))  : ∀ (n : Nat) (x3 : Int32) (x4 : Int32) (x5 : Int32) (x6 : Int32) (μ : gM), gloop (fun t => b_X2_walk_33  t.1 t.2.1 t.2.2.1 t.2.2.2.1 t.2.2.2.2) n (x3, x4, x5, x6, μ) = some r → ∀ {H : Heap} {locs : List Loc} {ls : Array Slot}, gW gFull D cy ad base μ H → va_S (gA base) s.heap H locs → lv_has ls 11 [(0, .ref (ad 6)), (1, .ref (ad 34)), (3, .int x3), (4, .int x4), (5, .int x5), (6, .int x6)] → W p l e ({ frames := 1, cells := 0, slots := 0, locals := 23 } : Room) s m args below meth c H locs 0 0 (MQ below (gQ none gFull D cy ad base RES) args s 0 0 (gA base)) (F0 m 33 ls []) := by
  intro n
  induction n with
  | zero =>
    intro x3 x4 x5 x6 μ h
    exact (gloop_0 h).elim
  | succ n ih =>
    intro x3 x4 x5 x6 μ h H locs ls hM hS hl
    obtain ⟨o, h0, hc, hq⟩ := gloop_s h
    have h1 : b_X2_walk_33 x3 x4 x5 x6 μ = some o := h0
    exact wb_X2_walk_33 h1 F E (fun t H locs ls ho hM hS hl => ih t.1 t.2.1 t.2.2.1 t.2.2.2.1 t.2.2.2.2 (hc t ho) hM hS hl) (fun t H locs ls ho hM hS hl => kx t (hq _ ho).symm hM hS hl) hM hS hl
def b_X2_walk_197 (x6 : Int32) (μ : gM) : Option ((Int32 × gM) ⊕ (gM)) :=
  if (x6 < 0) then some (.inr μ) else gchk (gIn x6 16) (gchk (gIn (gi μ 6 8) 17) (some (.inl ((x6 + (-1 : Int32)), (si (si μ 18 (gi μ 6 8).toNatClampNeg (gi μ 19 x6.toNatClampNeg)) 6 8 ((gi (si μ 18 (gi μ 6 8).toNatClampNeg (gi μ 19 x6.toNatClampNeg)) 6 8) + (1 : Int32)))))))
set_option maxHeartbeats 4000000 in
set_option maxRecDepth 100000 in
theorem wb_X2_walk_197 {p : Program} {l : Launch} {e : Env} {s : State} {m : MethodId} {args : Array Value} {below : List Frame} {meth : Method} {c : Code} {D : va_G} {cy : Nat → ClassId} {ad : Nat → Nat} {base : gBs} {x6 : Int32} {μ : gM} {o : (Int32 × gM) ⊕ (gM)} {RES : gM} (h : b_X2_walk_197 x6 μ = some o) (F : gF p s m meth c cX2_walk RX2 11 none) (E : gEnv l D cy ad base s) (kc : ∀ (t : Int32 × gM) {H : Heap} {locs : List Loc} {ls : Array Slot}, o = .inl t → gW gFull D cy ad base t.2 H → va_S (gA base) s.heap H locs → lv_has ls 11 [(0, .ref (ad 6)), (6, .int t.1)] → W p l e ({ frames := 1, cells := 0, slots := 0, locals := 23 } : Room) s m args below meth c H locs 0 0 (MQ below (gQ none gFull D cy ad base RES) args s 0 0 (gA base)) (F0 m 197 ls [])) (kx : ∀ (t : gM) {H : Heap} {locs : List Loc} {ls : Array Slot}, o = .inr t → gW gFull D cy ad base t H → va_S (gA base) s.heap H locs → lv_has ls 11 [] → W p l e ({ frames := 1, cells := 0, slots := 0, locals := 23 } : Room) s m args below meth c H locs 0 0 (MQ below (gQ none gFull D cy ad base RES) args s 0 0 (gA base)) (F0 m 234 ls []))  {H : Heap} {locs : List Loc} {ls : Array Slot} (hM : gW gFull D cy ad base μ H) (hS : va_S (gA base) s.heap H locs) (hl : lv_has ls 11 [(0, .ref (ad 6)), (6, .int x6)]) : W p l e ({ frames := 1, cells := 0, slots := 0, locals := 23 } : Room) s m args below meth c H locs 0 0 (MQ below (gQ none gFull D cy ad base RES) args s 0 0 (gA base)) (F0 m 197 ls []) := by
  obtain ⟨hx, hb, hml, hown, hlocks, hr⟩ := id F
  unfold b_X2_walk_197 at h
  refine lv_iload hx hb dX2_walk_197 (lv_at hl 1 rfl) ?_
  refine lv_if_lt (tgt := 234) hx hb dX2_walk_199 (by decide) (fun c19 => ?_) (fun c19 => ?_)
  · replace h := gif_t c19 h
    exact kx _ (Option.some.inj h).symm hM hS (lv_sub hl [] rfl)
  · replace h := gif_f c19 h
    refine lv_aload_n hx hb dX2_walk_202 rfl (lv_at hl 0 rfl) ?_
    refine gg_6_7 hx hb hown E hM hk_6 kw_286 dX2_walk_203 ?_
    refine lv_aload_n hx hb dX2_walk_206 rfl (lv_at hl 0 rfl) ?_
    refine gg_6_8 hx hb hown E hM hk_6 kw_288 dX2_walk_207 ?_
    refine lv_aload_n hx hb dX2_walk_210 rfl (lv_at hl 0 rfl) ?_
    refine gg_6_9 hx hb hown E hM hk_6 kw_290 dX2_walk_211 ?_
    refine lv_iload hx hb dX2_walk_214 (lv_at hl 1 rfl) ?_
    obtain ⟨c20, h⟩ := gchk_e h
    refine g_iald hx hb E hM hk_19 dd_19 c20 dX2_walk_216 ?_
    obtain ⟨c21, h⟩ := gchk_e h
    refine g_iast hx hb E hM hS hk_18 dd_18 c21 dX2_walk_217 (fun H locs hM hS => ?_)
    refine lv_aload_n hx hb dX2_walk_218 rfl (lv_at hl 0 rfl) ?_
    refine lv_dup hx hb dX2_walk_219 rfl ?_
    refine gg_6_8 hx hb hown E hM hk_6 kw_288 dX2_walk_220 ?_
    refine lv_iconst (v := (1 : Int32)) hx hb dX2_walk_223 (by decide) ?_
    refine lv_iadd hx hb dX2_walk_224 ?_
    refine gp_6_8 hx hb hown E hM hS hk_6 kw_288 dX2_walk_225 (fun H locs hM hS => ?_)
    refine lv_iinc (v := (x6 + (-1 : Int32))) (lv' := [(6, .int (x6 + (-1 : Int32))), (0, .ref (ad 6))]) hx hb dX2_walk_228 hl (k := 1) rfl rfl (by decide) rfl (fun ls hl => ?_)
    refine lv_goto (tgt := 197) hx hb dX2_walk_231 (by decide) ?_
    exact kc _ (Option.some.inj h).symm hM hS (lv_sub hl [1, 0] rfl)
set_option maxHeartbeats 4000000 in
theorem wl_X2_walk_197 {p : Program} {l : Launch} {e : Env} {s : State} {m : MethodId} {args : Array Value} {below : List Frame} {meth : Method} {c : Code} {D : va_G} {cy : Nat → ClassId} {ad : Nat → Nat} {base : gBs}  {r : gM} {RES : gM} (F : gF p s m meth c cX2_walk RX2 11 none) (E : gEnv l D cy ad base s) (kx : ∀ (t : gM) {H : Heap} {locs : List Loc} {ls : Array Slot}, r = t → gW gFull D cy ad base t H → va_S (gA base) s.heap H locs → lv_has ls 11 [] → W p l e ({ frames := 1, cells := 0, slots := 0, locals := 23 } : Room) s m args below meth c H locs 0 0 (MQ below (gQ none gFull D cy ad base RES) args s 0 0 (gA base)) (F0 m 234 ls []))  : ∀ (n : Nat) (x6 : Int32) (μ : gM), gloop (fun t => b_X2_walk_197  t.1 t.2) n (x6, μ) = some r → ∀ {H : Heap} {locs : List Loc} {ls : Array Slot}, gW gFull D cy ad base μ H → va_S (gA base) s.heap H locs → lv_has ls 11 [(0, .ref (ad 6)), (6, .int x6)] → W p l e ({ frames := 1, cells := 0, slots := 0, locals := 23 } : Room) s m args below meth c H locs 0 0 (MQ below (gQ none gFull D cy ad base RES) args s 0 0 (gA base)) (F0 m 197 ls []) := by
  intro n
  induction n with
  | zero =>
    intro x6 μ h
    exact (gloop_0 h).elim
  | succ n ih =>
    intro x6 μ h H locs ls hM hS hl
    obtain ⟨o, h0, hc, hq⟩ := gloop_s h
    have h1 : b_X2_walk_197 x6 μ = some o := h0
    exact wb_X2_walk_197 h1 F E (fun t H locs ls ho hM hS hl => ih t.1 t.2 (hc t ho) hM hS hl) (fun t H locs ls ho hM hS hl => kx t (hq _ ho).symm hM hS hl) hM hS hl
def j_X2_walk_192 (x3 : Int32) (μ : gM) : Option (gM) :=
  Option.bind (gloop (fun t => b_X2_walk_197  t.1 t.2) gFuel ((x3 - (1 : Int32)), μ)) (fun q22 => some q22)
set_option maxHeartbeats 4000000 in
set_option maxRecDepth 100000 in
theorem wj_X2_walk_192 {p : Program} {l : Launch} {e : Env} {s : State} {m : MethodId} {args : Array Value} {below : List Frame} {meth : Method} {c : Code} {D : va_G} {cy : Nat → ClassId} {ad : Nat → Nat} {base : gBs} {x3 : Int32} {μ : gM} {o : gM} (h : j_X2_walk_192 x3 μ = some o) (F : gF p s m meth c cX2_walk RX2 11 none) (E : gEnv l D cy ad base s)  {H : Heap} {locs : List Loc} {ls : Array Slot} (hM : gW gFull D cy ad base μ H) (hS : va_S (gA base) s.heap H locs) (hl : lv_has ls 11 [(0, .ref (ad 6)), (3, .int x3)]) : W p l e ({ frames := 1, cells := 0, slots := 0, locals := 23 } : Room) s m args below meth c H locs 0 0 (MQ below (gQ none gFull D cy ad base o) args s 0 0 (gA base)) (F0 m 192 ls []) := by
  obtain ⟨hx, hb, hml, hown, hlocks, hr⟩ := id F
  unfold j_X2_walk_192 at h
  refine lv_iload_n hx hb dX2_walk_192 rfl (lv_at hl 1 rfl) ?_
  refine lv_iconst (v := (1 : Int32)) hx hb dX2_walk_193 (by decide) ?_
  refine lv_isub hx hb dX2_walk_194 ?_
  refine lv_istore (lv' := [(6, .int (x3 - (1 : Int32))), (0, .ref (ad 6)), (3, .int x3)]) hx hb dX2_walk_195 hl (by decide) rfl (fun ls hl => ?_)
  obtain ⟨z23, h1, h⟩ := gbind_e h
  refine wl_X2_walk_197 F E (r := z23) (fun q22 H locs ls e1 hM hS hl => ?_) gFuel (x3 - (1 : Int32)) μ h1 hM hS (lv_sub hl [1, 0] rfl)
  replace e1 : z23 = q22 := e1
  rw [e1] at h
  obtain rfl := Option.some.inj h
  exact g_vret hx hb hr hlocks hM hS dX2_walk_234
def f_X2_walk (p2 : Int32) (μ : gM) : Option (gM) :=
  gchk (gIn (0 : Int32) 17) (gchk (gIn p2 20) (gchk (gIn p2 20) (Option.bind (gloop (fun t => b_X2_walk_33  t.1 t.2.1 t.2.2.1 t.2.2.2.1 t.2.2.2.2) gFuel ((0 : Int32), (gi (si (si μ 18 (0 : Int32).toNatClampNeg p2) 6 8 (1 : Int32)) 41 p2.toNatClampNeg), (gi (si (si μ 18 (0 : Int32).toNatClampNeg p2) 6 8 (1 : Int32)) 40 p2.toNatClampNeg), (0 : Int32), (si (si μ 18 (0 : Int32).toNatClampNeg p2) 6 8 (1 : Int32)))) (fun q18 => j_X2_walk_192 q18.1 q18.2))))
set_option maxHeartbeats 4000000 in
set_option maxRecDepth 100000 in
theorem c_X2_walk {l : Launch} {D : va_G} {cy : Nat → ClassId} {ad : Nat → Nat} {base : gBs} {p2 : Int32} {μ : gM} {RES : gM} (h : f_X2_walk p2 μ = some RES) : Met l yX2_walk [.code yX2_walk cX2_walk 11 none] ({ frames := 1, cells := 0, slots := 0, locals := 23 } : Room) (va_Pc [.ref (ad 6), .ref (ad 34), .int p2] (gB l gFull D cy ad base μ)) (gQ none gFull D cy ad base RES) 0 0 (gA base) := by
  refine Met.ofW (cc := cX2_walk) (maxL := 11) (ret := none) (by decide) rfl ?_
  intro p e s m args below meth c s₁ B hml0 hv
  obtain ⟨rfl, E, hM⟩ := hv
  have F : gF p s m meth c cX2_walk RX2 11 none := gF_of B hml0
  obtain ⟨hx, hb, hml, hown, hlocks, hr⟩ := id F
  have hS : va_S (gA base) s.heap s.heap [] := va_S.rf
  have hl := lv_entry ([.ref (ad 6), .ref (ad 34), .int p2]) (n := 11) (Nat.le_of_ble_eq_true rfl)
  rw [lg_entry_eq]
  generalize (lg_sl ([.ref (ad 6), .ref (ad 34), .int p2]) ++ List.replicate (11 - (lg_sl ([.ref (ad 6), .ref (ad 34), .int p2])).length) Slot.unset).toArray = ls at hl ⊢
  have hl : lv_has ls 11 [(0, .ref (ad 6)), (1, .ref (ad 34)), (2, .int p2)] := hl
  unfold f_X2_walk at h
  refine lv_aload_n hx hb dX2_walk_0 rfl (lv_at hl 0 rfl) ?_
  refine gg_6_7 hx hb hown E hM hk_6 kw_286 dX2_walk_1 ?_
  refine lv_iconst (v := (0 : Int32)) hx hb dX2_walk_4 (by decide) ?_
  refine lv_iload_n hx hb dX2_walk_5 rfl (lv_at hl 2 rfl) ?_
  obtain ⟨c1, h⟩ := gchk_e h
  refine g_iast hx hb E hM hS hk_18 dd_18 c1 dX2_walk_6 (fun H locs hM hS => ?_)
  refine lv_aload_n hx hb dX2_walk_7 rfl (lv_at hl 0 rfl) ?_
  refine lv_iconst (v := (1 : Int32)) hx hb dX2_walk_8 (by decide) ?_
  refine gp_6_8 hx hb hown E hM hS hk_6 kw_288 dX2_walk_9 (fun H locs hM hS => ?_)
  refine lv_iconst (v := (0 : Int32)) hx hb dX2_walk_12 (by decide) ?_
  refine lv_istore_n (lv' := [(3, .int (0 : Int32)), (0, .ref (ad 6)), (1, .ref (ad 34)), (2, .int p2)]) hx hb dX2_walk_13 rfl hl (by decide) rfl (fun ls hl => ?_)
  refine lv_aload_n hx hb dX2_walk_14 rfl (lv_at hl 2 rfl) ?_
  refine gg_34_11 hx hb hown E hM hk_34 kw_433 dX2_walk_15 ?_
  refine lv_iload_n hx hb dX2_walk_18 rfl (lv_at hl 3 rfl) ?_
  obtain ⟨c2, h⟩ := gchk_e h
  refine g_iald hx hb E hM hk_41 dd_41 c2 dX2_walk_19 ?_
  refine lv_istore (lv' := [(4, .int (gi (si (si μ 18 (0 : Int32).toNatClampNeg p2) 6 8 (1 : Int32)) 41 p2.toNatClampNeg)), (3, .int (0 : Int32)), (0, .ref (ad 6)), (1, .ref (ad 34)), (2, .int p2)]) hx hb dX2_walk_20 hl (by decide) rfl (fun ls hl => ?_)
  refine lv_aload_n hx hb dX2_walk_22 rfl (lv_at hl 3 rfl) ?_
  refine gg_34_10 hx hb hown E hM hk_34 kw_428 dX2_walk_23 ?_
  refine lv_iload_n hx hb dX2_walk_26 rfl (lv_at hl 4 rfl) ?_
  obtain ⟨c3, h⟩ := gchk_e h
  refine g_iald hx hb E hM hk_40 dd_40 c3 dX2_walk_27 ?_
  refine lv_istore (lv' := [(5, .int (gi (si (si μ 18 (0 : Int32).toNatClampNeg p2) 6 8 (1 : Int32)) 40 p2.toNatClampNeg)), (4, .int (gi (si (si μ 18 (0 : Int32).toNatClampNeg p2) 6 8 (1 : Int32)) 41 p2.toNatClampNeg)), (3, .int (0 : Int32)), (0, .ref (ad 6)), (1, .ref (ad 34)), (2, .int p2)]) hx hb dX2_walk_28 hl (by decide) rfl (fun ls hl => ?_)
  refine lv_iconst (v := (0 : Int32)) hx hb dX2_walk_30 (by decide) ?_
  refine lv_istore (lv' := [(6, .int (0 : Int32)), (5, .int (gi (si (si μ 18 (0 : Int32).toNatClampNeg p2) 6 8 (1 : Int32)) 40 p2.toNatClampNeg)), (4, .int (gi (si (si μ 18 (0 : Int32).toNatClampNeg p2) 6 8 (1 : Int32)) 41 p2.toNatClampNeg)), (3, .int (0 : Int32)), (0, .ref (ad 6)), (1, .ref (ad 34)), (2, .int p2)]) hx hb dX2_walk_31 hl (by decide) rfl (fun ls hl => ?_)
  obtain ⟨z24, h1, h⟩ := gbind_e h
  refine wl_X2_walk_33 F E (r := z24) (fun q18 H locs ls e1 hM hS hl => ?_) gFuel (0 : Int32) (gi (si (si μ 18 (0 : Int32).toNatClampNeg p2) 6 8 (1 : Int32)) 41 p2.toNatClampNeg) (gi (si (si μ 18 (0 : Int32).toNatClampNeg p2) 6 8 (1 : Int32)) 40 p2.toNatClampNeg) (0 : Int32) (si (si μ 18 (0 : Int32).toNatClampNeg p2) 6 8 (1 : Int32)) h1 hM hS (lv_sub hl [4, 5, 3, 2, 1, 0] rfl)
  replace e1 : z24 = q18 := e1
  rw [e1] at h
  exact wj_X2_walk_192 h F E hM hS hl
def b_X2_rootOfSquare_5 (x0 : Int64) (x2 : Int32) (x3 : Int32) (μ : gM) : Option ((Int32 × Int32) ⊕ (Int32)) :=
  if (x3 ≤ 0) then some (.inr x2) else if (x0 < ((x2 + x3).toInt64 * (x2 + x3).toInt64)) then some (.inl (x2, (x3 >>> ((1 : Int32) &&& 31)))) else some (.inl ((x2 + x3), (x3 >>> ((1 : Int32) &&& 31))))
set_option maxHeartbeats 4000000 in
set_option maxRecDepth 100000 in
theorem wb_X2_rootOfSquare_5 {p : Program} {l : Launch} {e : Env} {s : State} {m : MethodId} {args : Array Value} {below : List Frame} {meth : Method} {c : Code} {D : va_G} {cy : Nat → ClassId} {ad : Nat → Nat} {base : gBs} {x0 : Int64} {x2 : Int32} {x3 : Int32} {μ : gM} {o : (Int32 × Int32) ⊕ (Int32)} {RES : Int32} (h : b_X2_rootOfSquare_5 x0 x2 x3 μ = some o) (F : gF p s m meth c cX2_rootOfSquare RX2 6 (some .int)) (E : gEnv l D cy ad base s) (kc : ∀ (t : Int32 × Int32) {H : Heap} {locs : List Loc} {ls : Array Slot}, o = .inl t → gW gFull D cy ad base μ H → va_S (gA base) s.heap H locs → lv_has ls 6 [(0, .long x0), (2, .int t.1), (3, .int t.2)] → W p l e ({ frames := 0, cells := 0, slots := 0, locals := 0 } : Room) s m args below meth c H locs 0 0 (MQ below (gQ (some (.int RES)) gFull D cy ad base μ) args s 0 0 (gA base)) (F0 m 5 ls [])) (kx : ∀ (t : Int32) {H : Heap} {locs : List Loc} {ls : Array Slot}, o = .inr t → gW gFull D cy ad base μ H → va_S (gA base) s.heap H locs → lv_has ls 6 [(2, .int t)] → W p l e ({ frames := 0, cells := 0, slots := 0, locals := 0 } : Room) s m args below meth c H locs 0 0 (MQ below (gQ (some (.int RES)) gFull D cy ad base μ) args s 0 0 (gA base)) (F0 m 36 ls []))  {H : Heap} {locs : List Loc} {ls : Array Slot} (hM : gW gFull D cy ad base μ H) (hS : va_S (gA base) s.heap H locs) (hl : lv_has ls 6 [(0, .long x0), (2, .int x2), (3, .int x3)]) : W p l e ({ frames := 0, cells := 0, slots := 0, locals := 0 } : Room) s m args below meth c H locs 0 0 (MQ below (gQ (some (.int RES)) gFull D cy ad base μ) args s 0 0 (gA base)) (F0 m 5 ls []) := by
  obtain ⟨hx, hb, hml, hown, hlocks, hr⟩ := id F
  unfold b_X2_rootOfSquare_5 at h
  refine lv_iload_n hx hb dX2_rootOfSquare_5 rfl (lv_at hl 2 rfl) ?_
  refine lv_if_le (tgt := 36) hx hb dX2_rootOfSquare_6 (by decide) (fun c1 => ?_) (fun c1 => ?_)
  · replace h := gif_t c1 h
    exact kx _ (Option.some.inj h).symm hM hS (lv_sub hl [1] rfl)
  · replace h := gif_f c1 h
    refine lv_iload_n hx hb dX2_rootOfSquare_9 rfl (lv_at hl 1 rfl) ?_
    refine lv_iload_n hx hb dX2_rootOfSquare_10 rfl (lv_at hl 2 rfl) ?_
    refine lv_iadd hx hb dX2_rootOfSquare_11 ?_
    refine lv_i2l (v := (x2 + x3).toInt64) hx hb dX2_rootOfSquare_12 rfl ?_
    refine lv_lstore (lv' := [(4, .long ((x2 + x3).toInt64)), (0, .long x0), (2, .int x2), (3, .int x3)]) hx hb dX2_rootOfSquare_13 hl (by decide) rfl (fun ls hl => ?_)
    refine lv_lload hx hb dX2_rootOfSquare_15 (lv_at hl 0 rfl) ?_
    refine lv_lload hx hb dX2_rootOfSquare_17 (lv_at hl 0 rfl) ?_
    refine lv_lmul hx hb dX2_rootOfSquare_19 ?_
    refine lv_lload_n hx hb dX2_rootOfSquare_20 rfl (lv_at hl 1 rfl) ?_
    refine W.lcmp hx hb dX2_rootOfSquare_21 ?_
    refine lv_if_gt (tgt := 29) hx hb dX2_rootOfSquare_22 (by decide) (fun c2 => ?_) (fun c2 => ?_)
    · replace c2 := (lg_cmp_gt _ _).mp c2
      replace h := gif_t c2 h
      refine lv_iload_n hx hb dX2_rootOfSquare_29 rfl (lv_at hl 3 rfl) ?_
      refine lv_iconst (v := (1 : Int32)) hx hb dX2_rootOfSquare_30 (by decide) ?_
      refine lv_ishr hx hb dX2_rootOfSquare_31 ?_
      refine lv_istore_n (lv' := [(3, .int (x3 >>> ((1 : Int32) &&& 31))), (4, .long ((x2 + x3).toInt64)), (0, .long x0), (2, .int x2)]) hx hb dX2_rootOfSquare_32 rfl hl (by decide) rfl (fun ls hl => ?_)
      refine lv_goto (tgt := 5) hx hb dX2_rootOfSquare_33 (by decide) ?_
      exact kc _ (Option.some.inj h).symm hM hS (lv_sub hl [2, 3, 0] rfl)
    · replace c2 := fun w => c2 ((lg_cmp_gt _ _).mpr w)
      replace h := gif_f c2 h
      refine lv_iload_n hx hb dX2_rootOfSquare_25 rfl (lv_at hl 2 rfl) ?_
      refine lv_iload_n hx hb dX2_rootOfSquare_26 rfl (lv_at hl 3 rfl) ?_
      refine lv_iadd hx hb dX2_rootOfSquare_27 ?_
      refine lv_istore_n (lv' := [(2, .int (x2 + x3)), (4, .long ((x2 + x3).toInt64)), (0, .long x0), (3, .int x3)]) hx hb dX2_rootOfSquare_28 rfl hl (by decide) rfl (fun ls hl => ?_)
      refine lv_iload_n hx hb dX2_rootOfSquare_29 rfl (lv_at hl 3 rfl) ?_
      refine lv_iconst (v := (1 : Int32)) hx hb dX2_rootOfSquare_30 (by decide) ?_
      refine lv_ishr hx hb dX2_rootOfSquare_31 ?_
      refine lv_istore_n (lv' := [(3, .int (x3 >>> ((1 : Int32) &&& 31))), (2, .int (x2 + x3)), (4, .long ((x2 + x3).toInt64)), (0, .long x0)]) hx hb dX2_rootOfSquare_32 rfl hl (by decide) rfl (fun ls hl => ?_)
      refine lv_goto (tgt := 5) hx hb dX2_rootOfSquare_33 (by decide) ?_
      exact kc _ (Option.some.inj h).symm hM hS (lv_sub hl [3, 1, 0] rfl)
set_option maxHeartbeats 4000000 in
theorem wl_X2_rootOfSquare_5 {p : Program} {l : Launch} {e : Env} {s : State} {m : MethodId} {args : Array Value} {below : List Frame} {meth : Method} {c : Code} {D : va_G} {cy : Nat → ClassId} {ad : Nat → Nat} {base : gBs} {x0 : Int64} {μ : gM} {r : Int32} {RES : Int32} (F : gF p s m meth c cX2_rootOfSquare RX2 6 (some .int)) (E : gEnv l D cy ad base s) (kx : ∀ (t : Int32) {H : Heap} {locs : List Loc} {ls : Array Slot}, r = t → gW gFull D cy ad base μ H → va_S (gA base) s.heap H locs → lv_has ls 6 [(2, .int t)] → W p l e ({ frames := 0, cells := 0, slots := 0, locals := 0 } : Room) s m args below meth c H locs 0 0 (MQ below (gQ (some (.int RES)) gFull D cy ad base μ) args s 0 0 (gA base)) (F0 m 36 ls []))  : ∀ (n : Nat) (x2 : Int32) (x3 : Int32), gloop (fun t => b_X2_rootOfSquare_5 x0 t.1 t.2 μ) n (x2, x3) = some r → ∀ {H : Heap} {locs : List Loc} {ls : Array Slot}, gW gFull D cy ad base μ H → va_S (gA base) s.heap H locs → lv_has ls 6 [(0, .long x0), (2, .int x2), (3, .int x3)] → W p l e ({ frames := 0, cells := 0, slots := 0, locals := 0 } : Room) s m args below meth c H locs 0 0 (MQ below (gQ (some (.int RES)) gFull D cy ad base μ) args s 0 0 (gA base)) (F0 m 5 ls []) := by
  intro n
  induction n with
  | zero =>
    intro x2 x3 h
    exact (gloop_0 h).elim
  | succ n ih =>
    intro x2 x3 h H locs ls hM hS hl
    obtain ⟨o, h0, hc, hq⟩ := gloop_s h
    have h1 : b_X2_rootOfSquare_5 x0 x2 x3 μ = some o := h0
    exact wb_X2_rootOfSquare_5 h1 F E (fun t H locs ls ho hM hS hl => ih t.1 t.2 (hc t ho) hM hS hl) (fun t H locs ls ho hM hS hl => kx t (hq _ ho).symm hM hS hl) hM hS hl
def f_X2_rootOfSquare (p1 : Int64) (μ : gM) : Option (Int32) :=
  Option.bind (gloop (fun t => b_X2_rootOfSquare_5 p1 t.1 t.2 μ) gFuel ((0 : Int32), (262144 : Int32))) (fun q3 => some q3)
set_option maxHeartbeats 4000000 in
set_option maxRecDepth 100000 in
theorem c_X2_rootOfSquare {l : Launch} {D : va_G} {cy : Nat → ClassId} {ad : Nat → Nat} {base : gBs} {p1 : Int64} {μ : gM} {RES : Int32} (h : f_X2_rootOfSquare p1 μ = some RES) : Met l yX2_rootOfSquare [.code yX2_rootOfSquare cX2_rootOfSquare 6 (some .int)] ({ frames := 0, cells := 0, slots := 0, locals := 0 } : Room) (va_Pc [.long p1] (gB l gFull D cy ad base μ)) (gQ (some (.int RES)) gFull D cy ad base μ) 0 0 (gA base) := by
  refine Met.ofW (cc := cX2_rootOfSquare) (maxL := 6) (ret := (some .int)) (by decide) rfl ?_
  intro p e s m args below meth c s₁ B hml0 hv
  obtain ⟨rfl, E, hM⟩ := hv
  have F : gF p s m meth c cX2_rootOfSquare RX2 6 (some .int) := gF_of B hml0
  obtain ⟨hx, hb, hml, hown, hlocks, hr⟩ := id F
  have hS : va_S (gA base) s.heap s.heap [] := va_S.rf
  have hl := lv_entry ([.long p1]) (n := 6) (Nat.le_of_ble_eq_true rfl)
  rw [lg_entry_eq]
  generalize (lg_sl ([.long p1]) ++ List.replicate (6 - (lg_sl ([.long p1])).length) Slot.unset).toArray = ls at hl ⊢
  have hl : lv_has ls 6 [(0, .long p1)] := hl
  unfold f_X2_rootOfSquare at h
  refine lv_iconst (v := (0 : Int32)) hx hb dX2_rootOfSquare_0 (by decide) ?_
  refine lv_istore_n (lv' := [(2, .int (0 : Int32)), (0, .long p1)]) hx hb dX2_rootOfSquare_1 rfl hl (by decide) rfl (fun ls hl => ?_)
  refine lv_ldc hx hb hown (v := (262144 : Int32)) (E.kw kw_1322) dX2_rootOfSquare_2 ?_
  refine lv_istore_n (lv' := [(3, .int (262144 : Int32)), (2, .int (0 : Int32)), (0, .long p1)]) hx hb dX2_rootOfSquare_4 rfl hl (by decide) rfl (fun ls hl => ?_)
  obtain ⟨z4, h1, h⟩ := gbind_e h
  refine wl_X2_rootOfSquare_5 F E (r := z4) (fun q3 H locs ls e1 hM hS hl => ?_) gFuel (0 : Int32) (262144 : Int32) h1 hM hS (lv_sub hl [2, 1, 0] rfl)
  replace e1 : z4 = q3 := e1
  rw [e1] at h
  refine lv_iload_n hx hb dX2_rootOfSquare_36 rfl (lv_at hl 0 rfl) ?_
  obtain rfl := Option.some.inj h
  exact g_iret hx hb hr hlocks hM hS dX2_rootOfSquare_37
def j_X2_measureWay_64 (x2 : Int32) (x3 : Int32) (x4 : Int32) (x5 : Int32) (x6 : Int32) (x7 : Int32) (y0 : Int32) (μ : gM) : Option ((Int32 × Int32 × Int32 × Int32) ⊕ (Int32 × Int32 × Int32)) :=
  Option.bind (f_X3_lineLength y0 μ) (fun q6 => if (x7 = 0) then Option.bind (f_X3_lineRise y0 μ) (fun q8 => some (.inl ((x3 ||| ((1 : Int32) <<< (y0 &&& 31))), (x4 + q6), (x5 + q8), (x6 + (1 : Int32))))) else Option.bind (f_X3_lineRise y0 μ) (fun q9 => some (.inl ((x3 ||| ((1 : Int32) <<< (y0 &&& 31))), (x4 + q6), (x5 + (-q9)), (x6 + (1 : Int32))))))
set_option maxHeartbeats 4000000 in
set_option maxRecDepth 100000 in
theorem wj_X2_measureWay_64 {p : Program} {l : Launch} {e : Env} {s : State} {m : MethodId} {args : Array Value} {below : List Frame} {meth : Method} {c : Code} {D : va_G} {cy : Nat → ClassId} {ad : Nat → Nat} {base : gBs} {x2 : Int32} {x3 : Int32} {x4 : Int32} {x5 : Int32} {x6 : Int32} {x7 : Int32} {y0 : Int32} {μ : gM} {o : (Int32 × Int32 × Int32 × Int32) ⊕ (Int32 × Int32 × Int32)} {RES : gM} (h : j_X2_measureWay_64 x2 x3 x4 x5 x6 x7 y0 μ = some o) (F : gF p s m meth c cX2_measureWay RX2 9 none) (E : gEnv l D cy ad base s) (kc : ∀ (t : Int32 × Int32 × Int32 × Int32) {H : Heap} {locs : List Loc} {ls : Array Slot}, o = .inl t → gW gFull D cy ad base μ H → va_S (gA base) s.heap H locs → lv_has ls 9 [(0, .ref (ad 6)), (1, .ref (ad 34)), (2, .int x2), (3, .int t.1), (4, .int t.2.1), (5, .int t.2.2.1), (6, .int t.2.2.2)] → W p l e ({ frames := 3, cells := 0, slots := 0, locals := 68 } : Room) s m args below meth c H locs 0 0 (MQ below (gQ none gFull D cy ad base RES) args s 0 0 (gA base)) (F0 m 11 ls [])) (kx : ∀ (t : Int32 × Int32 × Int32) {H : Heap} {locs : List Loc} {ls : Array Slot}, o = .inr t → gW gFull D cy ad base μ H → va_S (gA base) s.heap H locs → lv_has ls 9 [(0, .ref (ad 6)), (1, .ref (ad 34)), (2, .int x2), (3, .int t.1), (4, .int t.2.1), (5, .int t.2.2)] → W p l e ({ frames := 3, cells := 0, slots := 0, locals := 68 } : Room) s m args below meth c H locs 0 0 (MQ below (gQ none gFull D cy ad base RES) args s 0 0 (gA base)) (F0 m 116 ls []))  {H : Heap} {locs : List Loc} {ls : Array Slot} (hM : gW gFull D cy ad base μ H) (hS : va_S (gA base) s.heap H locs) (hl : lv_has ls 9 [(0, .ref (ad 6)), (1, .ref (ad 34)), (2, .int x2), (3, .int x3), (4, .int x4), (5, .int x5), (6, .int x6), (7, .int x7)]) : W p l e ({ frames := 3, cells := 0, slots := 0, locals := 68 } : Room) s m args below meth c H locs 0 0 (MQ below (gQ none gFull D cy ad base RES) args s 0 0 (gA base)) (F0 m 64 ls [.int y0]) := by
  obtain ⟨hx, hb, hml, hown, hlocks, hr⟩ := id F
  unfold j_X2_measureWay_64 at h
  refine lv_istore (lv' := [(8, .int y0), (0, .ref (ad 6)), (1, .ref (ad 34)), (2, .int x2), (3, .int x3), (4, .int x4), (5, .int x5), (6, .int x6), (7, .int x7)]) hx hb dX2_measureWay_64 hl (by decide) rfl (fun ls hl => ?_)
  refine lv_iload_n hx hb dX2_measureWay_66 rfl (lv_at hl 4 rfl) ?_
  refine lv_iconst (v := (1 : Int32)) hx hb dX2_measureWay_67 (by decide) ?_
  refine lv_iload hx hb dX2_measureWay_68 (lv_at hl 0 rfl) ?_
  refine lv_ishl hx hb dX2_measureWay_70 ?_
  refine lv_ior hx hb dX2_measureWay_71 ?_
  refine lv_istore_n (lv' := [(3, .int (x3 ||| ((1 : Int32) <<< (y0 &&& 31)))), (8, .int y0), (0, .ref (ad 6)), (1, .ref (ad 34)), (2, .int x2), (4, .int x4), (5, .int x5), (6, .int x6), (7, .int x7)]) hx hb dX2_measureWay_72 rfl hl (by decide) rfl (fun ls hl => ?_)
  refine lv_iload hx hb dX2_measureWay_73 (lv_at hl 5 rfl) ?_
  refine lv_aload_n hx hb dX2_measureWay_75 rfl (lv_at hl 3 rfl) ?_
  refine lv_iload hx hb dX2_measureWay_76 (lv_at hl 1 rfl) ?_
  obtain ⟨q6, hq6, h⟩ := gbind_e h
  refine g_callV (As := [.int y0]) (rest := [.int x4]) hx hb (hml.trans hl.1.symm) hown E hM hS hy_X3_lineLength kw_1316 (c_X3_lineLength hq6) hk_34 dd_34 rfl rfl rfl (Nat.le_of_ble_eq_true rfl) ⟨Nat.le_of_ble_eq_true rfl, Nat.le_of_ble_eq_true rfl⟩ ⟨Nat.le_of_ble_eq_true rfl, Nat.le_of_ble_eq_true rfl⟩ dX2_measureWay_78 (fun H locs hM hS => ?_)
  refine lv_iadd hx hb dX2_measureWay_81 ?_
  refine lv_istore (lv' := [(4, .int (x4 + q6)), (3, .int (x3 ||| ((1 : Int32) <<< (y0 &&& 31)))), (8, .int y0), (0, .ref (ad 6)), (1, .ref (ad 34)), (2, .int x2), (5, .int x5), (6, .int x6), (7, .int x7)]) hx hb dX2_measureWay_82 hl (by decide) rfl (fun ls hl => ?_)
  refine lv_iload hx hb dX2_measureWay_84 (lv_at hl 6 rfl) ?_
  refine lv_iload hx hb dX2_measureWay_86 (lv_at hl 8 rfl) ?_
  refine lv_if_eq (tgt := 101) hx hb dX2_measureWay_88 (by decide) (fun c7 => ?_) (fun c7 => ?_)
  · replace h := gif_t c7 h
    refine lv_aload_n hx hb dX2_measureWay_101 rfl (lv_at hl 4 rfl) ?_
    refine lv_iload hx hb dX2_measureWay_102 (lv_at hl 2 rfl) ?_
    obtain ⟨q8, hq8, h⟩ := gbind_e h
    refine g_callV (As := [.int y0]) (rest := [.int x5]) hx hb (hml.trans hl.1.symm) hown E hM hS hy_X3_lineRise kw_1317 (c_X3_lineRise hq8) hk_34 dd_34 rfl rfl rfl (Nat.le_of_ble_eq_true rfl) ⟨Nat.le_of_ble_eq_true rfl, Nat.le_of_ble_eq_true rfl⟩ ⟨Nat.le_of_ble_eq_true rfl, Nat.le_of_ble_eq_true rfl⟩ dX2_measureWay_104 (fun H locs hM hS => ?_)
    refine lv_iadd hx hb dX2_measureWay_107 ?_
    refine lv_istore (lv' := [(5, .int (x5 + q8)), (4, .int (x4 + q6)), (3, .int (x3 ||| ((1 : Int32) <<< (y0 &&& 31)))), (8, .int y0), (0, .ref (ad 6)), (1, .ref (ad 34)), (2, .int x2), (6, .int x6), (7, .int x7)]) hx hb dX2_measureWay_108 hl (by decide) rfl (fun ls hl => ?_)
    refine lv_iinc (v := (x6 + (1 : Int32))) (lv' := [(6, .int (x6 + (1 : Int32))), (5, .int (x5 + q8)), (4, .int (x4 + q6)), (3, .int (x3 ||| ((1 : Int32) <<< (y0 &&& 31)))), (8, .int y0), (0, .ref (ad 6)), (1, .ref (ad 34)), (2, .int x2), (7, .int x7)]) hx hb dX2_measureWay_110 hl (k := 7) rfl rfl (by decide) rfl (fun ls hl => ?_)
    refine lv_goto (tgt := 11) hx hb dX2_measureWay_113 (by decide) ?_
    exact kc _ (Option.some.inj h).symm hM hS (lv_sub hl [5, 6, 7, 3, 2, 1, 0] rfl)
  · replace h := gif_f c7 h
    refine lv_aload_n hx hb dX2_measureWay_91 rfl (lv_at hl 4 rfl) ?_
    refine lv_iload hx hb dX2_measureWay_92 (lv_at hl 2 rfl) ?_
    obtain ⟨q9, hq9, h⟩ := gbind_e h
    refine g_callV (As := [.int y0]) (rest := [.int x5]) hx hb (hml.trans hl.1.symm) hown E hM hS hy_X3_lineRise kw_1317 (c_X3_lineRise hq9) hk_34 dd_34 rfl rfl rfl (Nat.le_of_ble_eq_true rfl) ⟨Nat.le_of_ble_eq_true rfl, Nat.le_of_ble_eq_true rfl⟩ ⟨Nat.le_of_ble_eq_true rfl, Nat.le_of_ble_eq_true rfl⟩ dX2_measureWay_94 (fun H locs hM hS => ?_)
    refine lv_ineg hx hb dX2_measureWay_97 ?_
    refine lv_goto (tgt := 107) hx hb dX2_measureWay_98 (by decide) ?_
    refine lv_iadd hx hb dX2_measureWay_107 ?_
    refine lv_istore (lv' := [(5, .int (x5 + (-q9))), (4, .int (x4 + q6)), (3, .int (x3 ||| ((1 : Int32) <<< (y0 &&& 31)))), (8, .int y0), (0, .ref (ad 6)), (1, .ref (ad 34)), (2, .int x2), (6, .int x6), (7, .int x7)]) hx hb dX2_measureWay_108 hl (by decide) rfl (fun ls hl => ?_)
    refine lv_iinc (v := (x6 + (1 : Int32))) (lv' := [(6, .int (x6 + (1 : Int32))), (5, .int (x5 + (-q9))), (4, .int (x4 + q6)), (3, .int (x3 ||| ((1 : Int32) <<< (y0 &&& 31)))), (8, .int y0), (0, .ref (ad 6)), (1, .ref (ad 34)), (2, .int x2), (7, .int x7)]) hx hb dX2_measureWay_110 hl (k := 7) rfl rfl (by decide) rfl (fun ls hl => ?_)
    refine lv_goto (tgt := 11) hx hb dX2_measureWay_113 (by decide) ?_
    exact kc _ (Option.some.inj h).symm hM hS (lv_sub hl [5, 6, 7, 3, 2, 1, 0] rfl)
def j_X2_measureWay_37 (x2 : Int32) (x3 : Int32) (x4 : Int32) (x5 : Int32) (x6 : Int32) (y0 : Int32) (μ : gM) : Option ((Int32 × Int32 × Int32 × Int32) ⊕ (Int32 × Int32 × Int32)) :=
  if (y0 = 0) then gchk (gIn x6 17) (j_X2_measureWay_64 x2 x3 x4 x5 x6 y0 (gi μ 18 x6.toNatClampNeg) μ) else gchk (gIn x6 17) (j_X2_measureWay_64 x2 x3 x4 x5 x6 y0 ((gi μ 18 x6.toNatClampNeg) - (100 : Int32)) μ)
set_option maxHeartbeats 4000000 in
set_option maxRecDepth 100000 in
theorem wj_X2_measureWay_37 {p : Program} {l : Launch} {e : Env} {s : State} {m : MethodId} {args : Array Value} {below : List Frame} {meth : Method} {c : Code} {D : va_G} {cy : Nat → ClassId} {ad : Nat → Nat} {base : gBs} {x2 : Int32} {x3 : Int32} {x4 : Int32} {x5 : Int32} {x6 : Int32} {y0 : Int32} {μ : gM} {o : (Int32 × Int32 × Int32 × Int32) ⊕ (Int32 × Int32 × Int32)} {RES : gM} (h : j_X2_measureWay_37 x2 x3 x4 x5 x6 y0 μ = some o) (F : gF p s m meth c cX2_measureWay RX2 9 none) (E : gEnv l D cy ad base s) (kc : ∀ (t : Int32 × Int32 × Int32 × Int32) {H : Heap} {locs : List Loc} {ls : Array Slot}, o = .inl t → gW gFull D cy ad base μ H → va_S (gA base) s.heap H locs → lv_has ls 9 [(0, .ref (ad 6)), (1, .ref (ad 34)), (2, .int x2), (3, .int t.1), (4, .int t.2.1), (5, .int t.2.2.1), (6, .int t.2.2.2)] → W p l e ({ frames := 3, cells := 0, slots := 0, locals := 68 } : Room) s m args below meth c H locs 0 0 (MQ below (gQ none gFull D cy ad base RES) args s 0 0 (gA base)) (F0 m 11 ls [])) (kx : ∀ (t : Int32 × Int32 × Int32) {H : Heap} {locs : List Loc} {ls : Array Slot}, o = .inr t → gW gFull D cy ad base μ H → va_S (gA base) s.heap H locs → lv_has ls 9 [(0, .ref (ad 6)), (1, .ref (ad 34)), (2, .int x2), (3, .int t.1), (4, .int t.2.1), (5, .int t.2.2)] → W p l e ({ frames := 3, cells := 0, slots := 0, locals := 68 } : Room) s m args below meth c H locs 0 0 (MQ below (gQ none gFull D cy ad base RES) args s 0 0 (gA base)) (F0 m 116 ls []))  {H : Heap} {locs : List Loc} {ls : Array Slot} (hM : gW gFull D cy ad base μ H) (hS : va_S (gA base) s.heap H locs) (hl : lv_has ls 9 [(0, .ref (ad 6)), (1, .ref (ad 34)), (2, .int x2), (3, .int x3), (4, .int x4), (5, .int x5), (6, .int x6)]) : W p l e ({ frames := 3, cells := 0, slots := 0, locals := 68 } : Room) s m args below meth c H locs 0 0 (MQ below (gQ none gFull D cy ad base RES) args s 0 0 (gA base)) (F0 m 37 ls [.int y0]) := by
  obtain ⟨hx, hb, hml, hown, hlocks, hr⟩ := id F
  unfold j_X2_measureWay_37 at h
  refine lv_istore (lv' := [(7, .int y0), (0, .ref (ad 6)), (1, .ref (ad 34)), (2, .int x2), (3, .int x3), (4, .int x4), (5, .int x5), (6, .int x6)]) hx hb dX2_measureWay_37 hl (by decide) rfl (fun ls hl => ?_)
  refine lv_iload hx hb dX2_measureWay_39 (lv_at hl 0 rfl) ?_
  refine lv_if_eq (tgt := 57) hx hb dX2_measureWay_41 (by decide) (fun c4 => ?_) (fun c4 => ?_)
  · replace h := gif_t c4 h
    refine lv_aload_n hx hb dX2_measureWay_57 rfl (lv_at hl 1 rfl) ?_
    refine gg_6_7 hx hb hown E hM hk_6 kw_286 dX2_measureWay_58 ?_
    refine lv_iload hx hb dX2_measureWay_61 (lv_at hl 7 rfl) ?_
    obtain ⟨c5, h⟩ := gchk_e h
    refine g_iald hx hb E hM hk_18 dd_18 c5 dX2_measureWay_63 ?_
    exact wj_X2_measureWay_64 h F E kc kx hM hS (lv_sub hl [1, 2, 3, 4, 5, 6, 7, 0] rfl)
  · replace h := gif_f c4 h
    refine lv_aload_n hx hb dX2_measureWay_44 rfl (lv_at hl 1 rfl) ?_
    refine gg_6_7 hx hb hown E hM hk_6 kw_286 dX2_measureWay_45 ?_
    refine lv_iload hx hb dX2_measureWay_48 (lv_at hl 7 rfl) ?_
    obtain ⟨c10, h⟩ := gchk_e h
    refine g_iald hx hb E hM hk_18 dd_18 c10 dX2_measureWay_50 ?_
    refine lv_bipush (v := (100 : Int32)) hx hb dX2_measureWay_51 (by decide) ?_
    refine lv_isub hx hb dX2_measureWay_53 ?_
    refine lv_goto (tgt := 64) hx hb dX2_measureWay_54 (by decide) ?_
    exact wj_X2_measureWay_64 h F E kc kx hM hS (lv_sub hl [1, 2, 3, 4, 5, 6, 7, 0] rfl)
def b_X2_measureWay_11 (x2 : Int32) (x3 : Int32) (x4 : Int32) (x5 : Int32) (x6 : Int32) (μ : gM) : Option ((Int32 × Int32 × Int32 × Int32) ⊕ (Int32 × Int32 × Int32)) :=
  if ((gi μ 6 8) ≤ x6) then some (.inr (x3, x4, x5)) else gchk (gIn x6 17) (if ((gi μ 18 x6.toNatClampNeg) < (100 : Int32)) then j_X2_measureWay_37 x2 x3 x4 x5 x6 (0 : Int32) μ else j_X2_measureWay_37 x2 x3 x4 x5 x6 (1 : Int32) μ)
set_option maxHeartbeats 4000000 in
set_option maxRecDepth 100000 in
theorem wb_X2_measureWay_11 {p : Program} {l : Launch} {e : Env} {s : State} {m : MethodId} {args : Array Value} {below : List Frame} {meth : Method} {c : Code} {D : va_G} {cy : Nat → ClassId} {ad : Nat → Nat} {base : gBs} {x2 : Int32} {x3 : Int32} {x4 : Int32} {x5 : Int32} {x6 : Int32} {μ : gM} {o : (Int32 × Int32 × Int32 × Int32) ⊕ (Int32 × Int32 × Int32)} {RES : gM} (h : b_X2_measureWay_11 x2 x3 x4 x5 x6 μ = some o) (F : gF p s m meth c cX2_measureWay RX2 9 none) (E : gEnv l D cy ad base s) (kc : ∀ (t : Int32 × Int32 × Int32 × Int32) {H : Heap} {locs : List Loc} {ls : Array Slot}, o = .inl t → gW gFull D cy ad base μ H → va_S (gA base) s.heap H locs → lv_has ls 9 [(0, .ref (ad 6)), (1, .ref (ad 34)), (2, .int x2), (3, .int t.1), (4, .int t.2.1), (5, .int t.2.2.1), (6, .int t.2.2.2)] → W p l e ({ frames := 3, cells := 0, slots := 0, locals := 68 } : Room) s m args below meth c H locs 0 0 (MQ below (gQ none gFull D cy ad base RES) args s 0 0 (gA base)) (F0 m 11 ls [])) (kx : ∀ (t : Int32 × Int32 × Int32) {H : Heap} {locs : List Loc} {ls : Array Slot}, o = .inr t → gW gFull D cy ad base μ H → va_S (gA base) s.heap H locs → lv_has ls 9 [(0, .ref (ad 6)), (1, .ref (ad 34)), (2, .int x2), (3, .int t.1), (4, .int t.2.1), (5, .int t.2.2)] → W p l e ({ frames := 3, cells := 0, slots := 0, locals := 68 } : Room) s m args below meth c H locs 0 0 (MQ below (gQ none gFull D cy ad base RES) args s 0 0 (gA base)) (F0 m 116 ls []))  {H : Heap} {locs : List Loc} {ls : Array Slot} (hM : gW gFull D cy ad base μ H) (hS : va_S (gA base) s.heap H locs) (hl : lv_has ls 9 [(0, .ref (ad 6)), (1, .ref (ad 34)), (2, .int x2), (3, .int x3), (4, .int x4), (5, .int x5), (6, .int x6)]) : W p l e ({ frames := 3, cells := 0, slots := 0, locals := 68 } : Room) s m args below meth c H locs 0 0 (MQ below (gQ none gFull D cy ad base RES) args s 0 0 (gA base)) (F0 m 11 ls []) := by
  obtain ⟨hx, hb, hml, hown, hlocks, hr⟩ := id F
  unfold b_X2_measureWay_11 at h
  refine lv_iload hx hb dX2_measureWay_11 (lv_at hl 6 rfl) ?_
  refine lv_aload_n hx hb dX2_measureWay_13 rfl (lv_at hl 0 rfl) ?_
  refine gg_6_8 hx hb hown E hM hk_6 kw_288 dX2_measureWay_14 ?_
  refine lv_icmp_ge (tgt := 116) hx hb dX2_measureWay_17 (by decide) (fun c1 => ?_) (fun c1 => ?_)
  · replace h := gif_t c1 h
    exact kx _ (Option.some.inj h).symm hM hS (lv_sub hl [0, 1, 2, 3, 4, 5] rfl)
  · replace h := gif_f c1 h
    refine lv_aload_n hx hb dX2_measureWay_20 rfl (lv_at hl 0 rfl) ?_
    refine gg_6_7 hx hb hown E hM hk_6 kw_286 dX2_measureWay_21 ?_
    refine lv_iload hx hb dX2_measureWay_24 (lv_at hl 6 rfl) ?_
    obtain ⟨c2, h⟩ := gchk_e h
    refine g_iald hx hb E hM hk_18 dd_18 c2 dX2_measureWay_26 ?_
    refine lv_bipush (v := (100 : Int32)) hx hb dX2_measureWay_27 (by decide) ?_
    refine lv_icmp_lt (tgt := 36) hx hb dX2_measureWay_29 (by decide) (fun c3 => ?_) (fun c3 => ?_)
    · replace h := gif_t c3 h
      refine lv_iconst (v := (0 : Int32)) hx hb dX2_measureWay_36 (by decide) ?_
      exact wj_X2_measureWay_37 h F E kc kx hM hS hl
    · replace h := gif_f c3 h
      refine lv_iconst (v := (1 : Int32)) hx hb dX2_measureWay_32 (by decide) ?_
      refine lv_goto (tgt := 37) hx hb dX2_measureWay_33 (by decide) ?_
      exact wj_X2_measureWay_37 h F E kc kx hM hS hl
set_option maxHeartbeats 4000000 in
theorem wl_X2_measureWay_11 {p : Program} {l : Launch} {e : Env} {s : State} {m : MethodId} {args : Array Value} {below : List Frame} {meth : Method} {c : Code} {D : va_G} {cy : Nat → ClassId} {ad : Nat → Nat} {base : gBs} {x2 : Int32} {μ : gM} {r : Int32 × Int32 × Int32} {RES : gM} (F : gF p s m meth c cX2_measureWay RX2 9 none) (E : gEnv l D cy ad base s) (kx : ∀ (t : Int32 × Int32 × Int32) {H : Heap} {locs : List Loc} {ls : Array Slot}, r = t → gW gFull D cy ad base μ H → va_S (gA base) s.heap H locs → lv_has ls 9 [(0, .ref (ad 6)), (1, .ref (ad 34)), (2, .int x2), (3, .int t.1), (4, .int t.2.1), (5, .int t.2.2)] → W p l e ({ frames := 3, cells := 0, slots := 0, locals := 68 } : Room) s m args below meth c H locs 0 0 (MQ below (gQ none gFull D cy ad base RES) args s 0 0 (gA base)) (F0 m 116 ls []))  : ∀ (n : Nat) (x3 : Int32) (x4 : Int32) (x5 : Int32) (x6 : Int32), gloop (fun t => b_X2_measureWay_11 x2 t.1 t.2.1 t.2.2.1 t.2.2.2 μ) n (x3, x4, x5, x6) = some r → ∀ {H : Heap} {locs : List Loc} {ls : Array Slot}, gW gFull D cy ad base μ H → va_S (gA base) s.heap H locs → lv_has ls 9 [(0, .ref (ad 6)), (1, .ref (ad 34)), (2, .int x2), (3, .int x3), (4, .int x4), (5, .int x5), (6, .int x6)] → W p l e ({ frames := 3, cells := 0, slots := 0, locals := 68 } : Room) s m args below meth c H locs 0 0 (MQ below (gQ none gFull D cy ad base RES) args s 0 0 (gA base)) (F0 m 11 ls []) := by
  intro n
  induction n with
  | zero =>
    intro x3 x4 x5 x6 h
    exact (gloop_0 h).elim
  | succ n ih =>
    intro x3 x4 x5 x6 h H locs ls hM hS hl
    obtain ⟨o, h0, hc, hq⟩ := gloop_s h
    have h1 : b_X2_measureWay_11 x2 x3 x4 x5 x6 μ = some o := h0
    exact wb_X2_measureWay_11 h1 F E (fun t H locs ls ho hM hS hl => ih t.1 t.2.1 t.2.2.1 t.2.2.2 (hc t ho) hM hS hl) (fun t H locs ls ho hM hS hl => kx t (hq _ ho).symm hM hS hl) hM hS hl
def f_X2_measureWay (p2 : Int32) (μ : gM) : Option (gM) :=
  Option.bind (gloop (fun t => b_X2_measureWay_11 p2 t.1 t.2.1 t.2.2.1 t.2.2.2 μ) gFuel ((0 : Int32), (0 : Int32), (0 : Int32), (0 : Int32))) (fun q11 => gchk (gIn (0 : Int32) 3) (gchk (gIn p2 20) (gchk (gIn p2 20) (gchk (gIn p2 20) (Option.bind (f_X2_rootOfSquare ((((10 : Int64) * (gi μ 35 (0 : Int32).toNatClampNeg).toInt64) * (gi μ 35 (0 : Int32).toNatClampNeg).toInt64) * q11.2.1.toInt64) (si (si (si μ 14 p2.toNatClampNeg q11.1) 15 p2.toNatClampNeg q11.2.1) 16 p2.toNatClampNeg q11.2.2)) (fun q16 => gchk (gIn p2 20) (some (si (si (si (si μ 14 p2.toNatClampNeg q11.1) 15 p2.toNatClampNeg q11.2.1) 16 p2.toNatClampNeg q11.2.2) 17 p2.toNatClampNeg q16))))))))
set_option maxHeartbeats 4000000 in
set_option maxRecDepth 100000 in
theorem c_X2_measureWay {l : Launch} {D : va_G} {cy : Nat → ClassId} {ad : Nat → Nat} {base : gBs} {p2 : Int32} {μ : gM} {RES : gM} (h : f_X2_measureWay p2 μ = some RES) : Met l yX2_measureWay [.code yX2_measureWay cX2_measureWay 9 none] ({ frames := 3, cells := 0, slots := 0, locals := 68 } : Room) (va_Pc [.ref (ad 6), .ref (ad 34), .int p2] (gB l gFull D cy ad base μ)) (gQ none gFull D cy ad base RES) 0 0 (gA base) := by
  refine Met.ofW (cc := cX2_measureWay) (maxL := 9) (ret := none) (by decide) rfl ?_
  intro p e s m args below meth c s₁ B hml0 hv
  obtain ⟨rfl, E, hM⟩ := hv
  have F : gF p s m meth c cX2_measureWay RX2 9 none := gF_of B hml0
  obtain ⟨hx, hb, hml, hown, hlocks, hr⟩ := id F
  have hS : va_S (gA base) s.heap s.heap [] := va_S.rf
  have hl := lv_entry ([.ref (ad 6), .ref (ad 34), .int p2]) (n := 9) (Nat.le_of_ble_eq_true rfl)
  rw [lg_entry_eq]
  generalize (lg_sl ([.ref (ad 6), .ref (ad 34), .int p2]) ++ List.replicate (9 - (lg_sl ([.ref (ad 6), .ref (ad 34), .int p2])).length) Slot.unset).toArray = ls at hl ⊢
  have hl : lv_has ls 9 [(0, .ref (ad 6)), (1, .ref (ad 34)), (2, .int p2)] := hl
  unfold f_X2_measureWay at h
  refine lv_iconst (v := (0 : Int32)) hx hb dX2_measureWay_0 (by decide) ?_
  refine lv_istore_n (lv' := [(3, .int (0 : Int32)), (0, .ref (ad 6)), (1, .ref (ad 34)), (2, .int p2)]) hx hb dX2_measureWay_1 rfl hl (by decide) rfl (fun ls hl => ?_)
  refine lv_iconst (v := (0 : Int32)) hx hb dX2_measureWay_2 (by decide) ?_
  refine lv_istore (lv' := [(4, .int (0 : Int32)), (3, .int (0 : Int32)), (0, .ref (ad 6)), (1, .ref (ad 34)), (2, .int p2)]) hx hb dX2_measureWay_3 hl (by decide) rfl (fun ls hl => ?_)
  refine lv_iconst (v := (0 : Int32)) hx hb dX2_measureWay_5 (by decide) ?_
  refine lv_istore (lv' := [(5, .int (0 : Int32)), (4, .int (0 : Int32)), (3, .int (0 : Int32)), (0, .ref (ad 6)), (1, .ref (ad 34)), (2, .int p2)]) hx hb dX2_measureWay_6 hl (by decide) rfl (fun ls hl => ?_)
  refine lv_iconst (v := (0 : Int32)) hx hb dX2_measureWay_8 (by decide) ?_
  refine lv_istore (lv' := [(6, .int (0 : Int32)), (5, .int (0 : Int32)), (4, .int (0 : Int32)), (3, .int (0 : Int32)), (0, .ref (ad 6)), (1, .ref (ad 34)), (2, .int p2)]) hx hb dX2_measureWay_9 hl (by decide) rfl (fun ls hl => ?_)
  obtain ⟨z18, h1, h⟩ := gbind_e h
  refine wl_X2_measureWay_11 F E (r := z18) (fun q11 H locs ls e1 hM hS hl => ?_) gFuel (0 : Int32) (0 : Int32) (0 : Int32) (0 : Int32) h1 hM hS (lv_sub hl [4, 5, 6, 3, 2, 1, 0] rfl)
  replace e1 : z18 = q11 := e1
  rw [e1] at h
  refine lv_aload_n hx hb dX2_measureWay_116 rfl (lv_at hl 1 rfl) ?_
  refine gg_34_5 hx hb hown E hM hk_34 kw_413 dX2_measureWay_117 ?_
  refine lv_iconst (v := (0 : Int32)) hx hb dX2_measureWay_120 (by decide) ?_
  obtain ⟨c12, h⟩ := gchk_e h
  refine g_iald hx hb E hM hk_35 dd_35 c12 dX2_measureWay_121 ?_
  refine lv_i2l (v := (gi μ 35 (0 : Int32).toNatClampNeg).toInt64) hx hb dX2_measureWay_122 rfl ?_
  refine lv_lstore (lv' := [(6, .long ((gi μ 35 (0 : Int32).toNatClampNeg).toInt64)), (0, .ref (ad 6)), (1, .ref (ad 34)), (2, .int p2), (3, .int q11.1), (4, .int q11.2.1), (5, .int q11.2.2)]) hx hb dX2_measureWay_123 hl (by decide) rfl (fun ls hl => ?_)
  refine lv_aload_n hx hb dX2_measureWay_125 rfl (lv_at hl 1 rfl) ?_
  refine gg_6_3 hx hb hown E hM hk_6 kw_278 dX2_measureWay_126 ?_
  refine lv_iload_n hx hb dX2_measureWay_129 rfl (lv_at hl 3 rfl) ?_
  refine lv_iload_n hx hb dX2_measureWay_130 rfl (lv_at hl 4 rfl) ?_
  obtain ⟨c13, h⟩ := gchk_e h
  refine g_iast hx hb E hM hS hk_14 dd_14 c13 dX2_measureWay_131 (fun H locs hM hS => ?_)
  refine lv_aload_n hx hb dX2_measureWay_132 rfl (lv_at hl 1 rfl) ?_
  refine gg_6_4 hx hb hown E hM hk_6 kw_280 dX2_measureWay_133 ?_
  refine lv_iload_n hx hb dX2_measureWay_136 rfl (lv_at hl 3 rfl) ?_
  refine lv_iload hx hb dX2_measureWay_137 (lv_at hl 5 rfl) ?_
  obtain ⟨c14, h⟩ := gchk_e h
  refine g_iast hx hb E hM hS hk_15 dd_15 c14 dX2_measureWay_139 (fun H locs hM hS => ?_)
  refine lv_aload_n hx hb dX2_measureWay_140 rfl (lv_at hl 1 rfl) ?_
  refine gg_6_5 hx hb hown E hM hk_6 kw_282 dX2_measureWay_141 ?_
  refine lv_iload_n hx hb dX2_measureWay_144 rfl (lv_at hl 3 rfl) ?_
  refine lv_iload hx hb dX2_measureWay_145 (lv_at hl 6 rfl) ?_
  obtain ⟨c15, h⟩ := gchk_e h
  refine g_iast hx hb E hM hS hk_16 dd_16 c15 dX2_measureWay_147 (fun H locs hM hS => ?_)
  refine lv_aload_n hx hb dX2_measureWay_148 rfl (lv_at hl 1 rfl) ?_
  refine gg_6_6 hx hb hown E hM hk_6 kw_284 dX2_measureWay_149 ?_
  refine lv_iload_n hx hb dX2_measureWay_152 rfl (lv_at hl 3 rfl) ?_
  refine lv_ldc2 hx hb hown (v := (10 : Int64)) (E.kw kw_1318) dX2_measureWay_153 ?_
  refine lv_lload hx hb dX2_measureWay_156 (lv_at hl 0 rfl) ?_
  refine lv_lmul hx hb dX2_measureWay_158 ?_
  refine lv_lload hx hb dX2_measureWay_159 (lv_at hl 0 rfl) ?_
  refine lv_lmul hx hb dX2_measureWay_161 ?_
  refine lv_iload hx hb dX2_measureWay_162 (lv_at hl 5 rfl) ?_
  refine lv_i2l (v := q11.2.1.toInt64) hx hb dX2_measureWay_164 rfl ?_
  refine lv_lmul hx hb dX2_measureWay_165 ?_
  obtain ⟨q16, hq16, h⟩ := gbind_e h
  refine g_callS (As := [.long ((((10 : Int64) * (gi μ 35 (0 : Int32).toNatClampNeg).toInt64) * (gi μ 35 (0 : Int32).toNatClampNeg).toInt64) * q11.2.1.toInt64)]) (rest := [.int p2, .ref (ad 17)]) hx hb (hml.trans hl.1.symm) hown E hM hS hy_X2_rootOfSquare kw_1319 (c_X2_rootOfSquare hq16) rfl rfl (Nat.le_of_ble_eq_true rfl) ⟨Nat.le_of_ble_eq_true rfl, Nat.le_of_ble_eq_true rfl⟩ ⟨Nat.le_of_ble_eq_true rfl, Nat.le_of_ble_eq_true rfl⟩ dX2_measureWay_166 (fun H locs hM hS => ?_)
  obtain ⟨c17, h⟩ := gchk_e h
  refine g_iast hx hb E hM hS hk_17 dd_17 c17 dX2_measureWay_169 (fun H locs hM hS => ?_)
  obtain rfl := Option.some.inj h
  exact g_vret hx hb hr hlocks hM hS dX2_measureWay_170
def b_X2_find_29 (x3 : Int32) (x4 : Int32) (μ : gM) : Option ((Int32 × gM) ⊕ (gM)) :=
  if ((gi μ 34 2) ≤ x4) then some (.inr μ) else if (((x3 >>> (x4 &&& 31)) &&& (1 : Int32)) = (1 : Int32)) then gchk (gIn (gi μ 6 1) 20) (Option.bind (f_X2_walk x4 (si μ 13 (gi μ 6 1).toNatClampNeg x4)) (fun q5 => Option.bind (f_X2_measureWay (gi q5 6 1) q5) (fun q6 => some (.inl ((x4 + (1 : Int32)), (si q6 6 1 ((gi q6 6 1) + (1 : Int32)))))))) else some (.inl ((x4 + (1 : Int32)), μ))
set_option maxHeartbeats 4000000 in
set_option maxRecDepth 100000 in
theorem wb_X2_find_29 {p : Program} {l : Launch} {e : Env} {s : State} {m : MethodId} {args : Array Value} {below : List Frame} {meth : Method} {c : Code} {D : va_G} {cy : Nat → ClassId} {ad : Nat → Nat} {base : gBs} {x3 : Int32} {x4 : Int32} {μ : gM} {o : (Int32 × gM) ⊕ (gM)} {RES : gM} (h : b_X2_find_29 x3 x4 μ = some o) (F : gF p s m meth c cX2_find RX2 5 none) (E : gEnv l D cy ad base s) (kc : ∀ (t : Int32 × gM) {H : Heap} {locs : List Loc} {ls : Array Slot}, o = .inl t → gW gFull D cy ad base t.2 H → va_S (gA base) s.heap H locs → lv_has ls 5 [(0, .ref (ad 6)), (1, .ref (ad 34)), (3, .int x3), (4, .int t.1)] → W p l e ({ frames := 4, cells := 0, slots := 0, locals := 96 } : Room) s m args below meth c H locs 0 0 (MQ below (gQ none gFull D cy ad base RES) args s 0 0 (gA base)) (F0 m 29 ls [])) (kx : ∀ (t : gM) {H : Heap} {locs : List Loc} {ls : Array Slot}, o = .inr t → gW gFull D cy ad base t H → va_S (gA base) s.heap H locs → lv_has ls 5 [] → W p l e ({ frames := 4, cells := 0, slots := 0, locals := 96 } : Room) s m args below meth c H locs 0 0 (MQ below (gQ none gFull D cy ad base RES) args s 0 0 (gA base)) (F0 m 91 ls []))  {H : Heap} {locs : List Loc} {ls : Array Slot} (hM : gW gFull D cy ad base μ H) (hS : va_S (gA base) s.heap H locs) (hl : lv_has ls 5 [(0, .ref (ad 6)), (1, .ref (ad 34)), (3, .int x3), (4, .int x4)]) : W p l e ({ frames := 4, cells := 0, slots := 0, locals := 96 } : Room) s m args below meth c H locs 0 0 (MQ below (gQ none gFull D cy ad base RES) args s 0 0 (gA base)) (F0 m 29 ls []) := by
  obtain ⟨hx, hb, hml, hown, hlocks, hr⟩ := id F
  unfold b_X2_find_29 at h
  refine lv_iload hx hb dX2_find_29 (lv_at hl 3 rfl) ?_
  refine lv_aload_n hx hb dX2_find_31 rfl (lv_at hl 1 rfl) ?_
  refine gg_34_2 hx hb hown E hM hk_34 kw_400 dX2_find_32 ?_
  refine lv_icmp_ge (tgt := 91) hx hb dX2_find_35 (by decide) (fun c2 => ?_) (fun c2 => ?_)
  · replace h := gif_t c2 h
    exact kx _ (Option.some.inj h).symm hM hS (lv_sub hl [] rfl)
  · replace h := gif_f c2 h
    refine lv_iload_n hx hb dX2_find_38 rfl (lv_at hl 2 rfl) ?_
    refine lv_iload hx hb dX2_find_39 (lv_at hl 3 rfl) ?_
    refine lv_ishr hx hb dX2_find_41 ?_
    refine lv_iconst (v := (1 : Int32)) hx hb dX2_find_42 (by decide) ?_
    refine lv_iand hx hb dX2_find_43 ?_
    refine lv_iconst (v := (1 : Int32)) hx hb dX2_find_44 (by decide) ?_
    refine lv_icmp_ne (tgt := 85) hx hb dX2_find_45 (by decide) (fun c3 => ?_) (fun c3 => ?_)
    · replace h := gif_f c3 h
      refine lv_iinc (v := (x4 + (1 : Int32))) (lv' := [(4, .int (x4 + (1 : Int32))), (0, .ref (ad 6)), (1, .ref (ad 34)), (3, .int x3)]) hx hb dX2_find_85 hl (k := 3) rfl rfl (by decide) rfl (fun ls hl => ?_)
      refine lv_goto (tgt := 29) hx hb dX2_find_88 (by decide) ?_
      exact kc _ (Option.some.inj h).symm hM hS (lv_sub hl [1, 2, 3, 0] rfl)
    · replace h := gif_t c3 h
      refine lv_aload_n hx hb dX2_find_48 rfl (lv_at hl 0 rfl) ?_
      refine gg_6_2 hx hb hown E hM hk_6 kw_276 dX2_find_49 ?_
      refine lv_aload_n hx hb dX2_find_52 rfl (lv_at hl 0 rfl) ?_
      refine gg_6_1 hx hb hown E hM hk_6 kw_274 dX2_find_53 ?_
      refine lv_iload hx hb dX2_find_56 (lv_at hl 3 rfl) ?_
      obtain ⟨c4, h⟩ := gchk_e h
      refine g_iast hx hb E hM hS hk_13 dd_13 c4 dX2_find_58 (fun H locs hM hS => ?_)
      refine lv_aload_n hx hb dX2_find_59 rfl (lv_at hl 0 rfl) ?_
      refine lv_aload_n hx hb dX2_find_60 rfl (lv_at hl 1 rfl) ?_
      refine lv_iload hx hb dX2_find_61 (lv_at hl 3 rfl) ?_
      obtain ⟨q5, hq5, h⟩ := gbind_e h
      refine g_callV (As := [.ref (ad 34), .int x4]) (rest := []) hx hb (hml.trans hl.1.symm) hown E hM hS hy_X2_walk kw_1304 (c_X2_walk hq5) hk_6 dd_6 rfl rfl rfl (Nat.le_of_ble_eq_true rfl) ⟨Nat.le_of_ble_eq_true rfl, Nat.le_of_ble_eq_true rfl⟩ ⟨Nat.le_of_ble_eq_true rfl, Nat.le_of_ble_eq_true rfl⟩ dX2_find_63 (fun H locs hM hS => ?_)
      refine lv_aload_n hx hb dX2_find_66 rfl (lv_at hl 0 rfl) ?_
      refine lv_aload_n hx hb dX2_find_67 rfl (lv_at hl 1 rfl) ?_
      refine lv_aload_n hx hb dX2_find_68 rfl (lv_at hl 0 rfl) ?_
      refine gg_6_1 hx hb hown E hM hk_6 kw_274 dX2_find_69 ?_
      obtain ⟨q6, hq6, h⟩ := gbind_e h
      refine g_callV (As := [.ref (ad 34), .int (gi q5 6 1)]) (rest := []) hx hb (hml.trans hl.1.symm) hown E hM hS hy_X2_measureWay kw_1312 (c_X2_measureWay hq6) hk_6 dd_6 rfl rfl rfl (Nat.le_of_ble_eq_true rfl) ⟨Nat.le_of_ble_eq_true rfl, Nat.le_of_ble_eq_true rfl⟩ ⟨Nat.le_of_ble_eq_true rfl, Nat.le_of_ble_eq_true rfl⟩ dX2_find_72 (fun H locs hM hS => ?_)
      refine lv_aload_n hx hb dX2_find_75 rfl (lv_at hl 0 rfl) ?_
      refine lv_dup hx hb dX2_find_76 rfl ?_
      refine gg_6_1 hx hb hown E hM hk_6 kw_274 dX2_find_77 ?_
      refine lv_iconst (v := (1 : Int32)) hx hb dX2_find_80 (by decide) ?_
      refine lv_iadd hx hb dX2_find_81 ?_
      refine gp_6_1 hx hb hown E hM hS hk_6 kw_274 dX2_find_82 (fun H locs hM hS => ?_)
      refine lv_iinc (v := (x4 + (1 : Int32))) (lv' := [(4, .int (x4 + (1 : Int32))), (0, .ref (ad 6)), (1, .ref (ad 34)), (3, .int x3)]) hx hb dX2_find_85 hl (k := 3) rfl rfl (by decide) rfl (fun ls hl => ?_)
      refine lv_goto (tgt := 29) hx hb dX2_find_88 (by decide) ?_
      exact kc _ (Option.some.inj h).symm hM hS (lv_sub hl [1, 2, 3, 0] rfl)
set_option maxHeartbeats 4000000 in
theorem wl_X2_find_29 {p : Program} {l : Launch} {e : Env} {s : State} {m : MethodId} {args : Array Value} {below : List Frame} {meth : Method} {c : Code} {D : va_G} {cy : Nat → ClassId} {ad : Nat → Nat} {base : gBs} {x3 : Int32} {r : gM} {RES : gM} (F : gF p s m meth c cX2_find RX2 5 none) (E : gEnv l D cy ad base s) (kx : ∀ (t : gM) {H : Heap} {locs : List Loc} {ls : Array Slot}, r = t → gW gFull D cy ad base t H → va_S (gA base) s.heap H locs → lv_has ls 5 [] → W p l e ({ frames := 4, cells := 0, slots := 0, locals := 96 } : Room) s m args below meth c H locs 0 0 (MQ below (gQ none gFull D cy ad base RES) args s 0 0 (gA base)) (F0 m 91 ls []))  : ∀ (n : Nat) (x4 : Int32) (μ : gM), gloop (fun t => b_X2_find_29 x3 t.1 t.2) n (x4, μ) = some r → ∀ {H : Heap} {locs : List Loc} {ls : Array Slot}, gW gFull D cy ad base μ H → va_S (gA base) s.heap H locs → lv_has ls 5 [(0, .ref (ad 6)), (1, .ref (ad 34)), (3, .int x3), (4, .int x4)] → W p l e ({ frames := 4, cells := 0, slots := 0, locals := 96 } : Room) s m args below meth c H locs 0 0 (MQ below (gQ none gFull D cy ad base RES) args s 0 0 (gA base)) (F0 m 29 ls []) := by
  intro n
  induction n with
  | zero =>
    intro x4 μ h
    exact (gloop_0 h).elim
  | succ n ih =>
    intro x4 μ h H locs ls hM hS hl
    obtain ⟨o, h0, hc, hq⟩ := gloop_s h
    have h1 : b_X2_find_29 x3 x4 μ = some o := h0
    exact wb_X2_find_29 h1 F E (fun t H locs ls ho hM hS hl => ih t.1 t.2 (hc t ho) hM hS hl) (fun t H locs ls ho hM hS hl => kx t (hq _ ho).symm hM hS hl) hM hS hl
def f_X2_find (p2 : Int32) (μ : gM) : Option (gM) :=
  Option.bind (f_X5_grow p2 μ) (fun q1 => Option.bind (gloop (fun t => b_X2_find_29 (p2 &&& ((gi (si q1 6 1 (0 : Int32)) 7 5) ^^^ (-1 : Int32))) t.1 t.2) gFuel ((0 : Int32), (si q1 6 1 (0 : Int32)))) (fun q7 => some q7))
set_option maxHeartbeats 4000000 in
set_option maxRecDepth 100000 in
theorem c_X2_find {l : Launch} {D : va_G} {cy : Nat → ClassId} {ad : Nat → Nat} {base : gBs} {p2 : Int32} {μ : gM} {RES : gM} (h : f_X2_find p2 μ = some RES) : Met l yX2_find [.code yX2_find cX2_find 5 none] ({ frames := 4, cells := 0, slots := 0, locals := 96 } : Room) (va_Pc [.ref (ad 6), .ref (ad 34), .int p2] (gB l gFull D cy ad base μ)) (gQ none gFull D cy ad base RES) 0 0 (gA base) := by
  refine Met.ofW (cc := cX2_find) (maxL := 5) (ret := none) (by decide) rfl ?_
  intro p e s m args below meth c s₁ B hml0 hv
  obtain ⟨rfl, E, hM⟩ := hv
  have F : gF p s m meth c cX2_find RX2 5 none := gF_of B hml0
  obtain ⟨hx, hb, hml, hown, hlocks, hr⟩ := id F
  have hS : va_S (gA base) s.heap s.heap [] := va_S.rf
  have hl := lv_entry ([.ref (ad 6), .ref (ad 34), .int p2]) (n := 5) (Nat.le_of_ble_eq_true rfl)
  rw [lg_entry_eq]
  generalize (lg_sl ([.ref (ad 6), .ref (ad 34), .int p2]) ++ List.replicate (5 - (lg_sl ([.ref (ad 6), .ref (ad 34), .int p2])).length) Slot.unset).toArray = ls at hl ⊢
  have hl : lv_has ls 5 [(0, .ref (ad 6)), (1, .ref (ad 34)), (2, .int p2)] := hl
  unfold f_X2_find at h
  refine lv_aload_n hx hb dX2_find_0 rfl (lv_at hl 0 rfl) ?_
  refine gg_6_0 hx hb hown E hM hk_6 kw_272 dX2_find_1 ?_
  refine lv_aload_n hx hb dX2_find_4 rfl (lv_at hl 1 rfl) ?_
  refine lv_iload_n hx hb dX2_find_5 rfl (lv_at hl 2 rfl) ?_
  obtain ⟨q1, hq1, h⟩ := gbind_e h
  refine g_callV (As := [.ref (ad 34), .int p2]) (rest := []) hx hb (hml.trans hl.1.symm) hown E hM hS hy_X5_grow kw_1303 (c_X5_grow hq1) hk_7 dd_7 rfl rfl rfl (Nat.le_of_ble_eq_true rfl) ⟨Nat.le_of_ble_eq_true rfl, Nat.le_of_ble_eq_true rfl⟩ ⟨Nat.le_of_ble_eq_true rfl, Nat.le_of_ble_eq_true rfl⟩ dX2_find_6 (fun H locs hM hS => ?_)
  refine lv_aload_n hx hb dX2_find_9 rfl (lv_at hl 0 rfl) ?_
  refine lv_iconst (v := (0 : Int32)) hx hb dX2_find_10 (by decide) ?_
  refine gp_6_1 hx hb hown E hM hS hk_6 kw_274 dX2_find_11 (fun H locs hM hS => ?_)
  refine lv_iload_n hx hb dX2_find_14 rfl (lv_at hl 2 rfl) ?_
  refine lv_aload_n hx hb dX2_find_15 rfl (lv_at hl 0 rfl) ?_
  refine gg_6_0 hx hb hown E hM hk_6 kw_272 dX2_find_16 ?_
  refine gg_7_5 hx hb hown E hM hk_7 kw_253 dX2_find_19 ?_
  refine lv_iconst (v := (-1 : Int32)) hx hb dX2_find_22 (by decide) ?_
  refine lv_ixor hx hb dX2_find_23 ?_
  refine lv_iand hx hb dX2_find_24 ?_
  refine lv_istore_n (lv' := [(3, .int (p2 &&& ((gi (si q1 6 1 (0 : Int32)) 7 5) ^^^ (-1 : Int32)))), (0, .ref (ad 6)), (1, .ref (ad 34)), (2, .int p2)]) hx hb dX2_find_25 rfl hl (by decide) rfl (fun ls hl => ?_)
  refine lv_iconst (v := (0 : Int32)) hx hb dX2_find_26 (by decide) ?_
  refine lv_istore (lv' := [(4, .int (0 : Int32)), (3, .int (p2 &&& ((gi (si q1 6 1 (0 : Int32)) 7 5) ^^^ (-1 : Int32)))), (0, .ref (ad 6)), (1, .ref (ad 34)), (2, .int p2)]) hx hb dX2_find_27 hl (by decide) rfl (fun ls hl => ?_)
  obtain ⟨z8, h1, h⟩ := gbind_e h
  refine wl_X2_find_29 F E (r := z8) (fun q7 H locs ls e1 hM hS hl => ?_) gFuel (0 : Int32) (si q1 6 1 (0 : Int32)) h1 hM hS (lv_sub hl [2, 3, 1, 0] rfl)
  replace e1 : z8 = q7 := e1
  rw [e1] at h
  obtain rfl := Option.some.inj h
  exact g_vret hx hb hr hlocks hM hS dX2_find_91
def f_X2_excess (p1 : Int32) (μ : gM) : Option (Int32) :=
  gchk (gIn p1 20) (gchk (gIn p1 20) (some ((iabs (gi μ 16 p1.toNatClampNeg)) - (gi μ 17 p1.toNatClampNeg))))
set_option maxHeartbeats 4000000 in
set_option maxRecDepth 100000 in
theorem c_X2_excess {l : Launch} {D : va_G} {cy : Nat → ClassId} {ad : Nat → Nat} {base : gBs} {p1 : Int32} {μ : gM} {RES : Int32} (h : f_X2_excess p1 μ = some RES) : Met l yX2_excess [.code yX2_excess cX2_excess 2 (some .int)] ({ frames := 1, cells := 0, slots := 0, locals := 21 } : Room) (va_Pc [.ref (ad 6), .int p1] (gB l gFull D cy ad base μ)) (gQ (some (.int RES)) gFull D cy ad base μ) 0 0 (gA base) := by
  refine Met.ofW (cc := cX2_excess) (maxL := 2) (ret := (some .int)) (by decide) rfl ?_
  intro p e s m args below meth c s₁ B hml0 hv
  obtain ⟨rfl, E, hM⟩ := hv
  have F : gF p s m meth c cX2_excess RX2 2 (some .int) := gF_of B hml0
  obtain ⟨hx, hb, hml, hown, hlocks, hr⟩ := id F
  have hS : va_S (gA base) s.heap s.heap [] := va_S.rf
  have hl := lv_entry ([.ref (ad 6), .int p1]) (n := 2) (Nat.le_of_ble_eq_true rfl)
  rw [lg_entry_eq]
  generalize (lg_sl ([.ref (ad 6), .int p1]) ++ List.replicate (2 - (lg_sl ([.ref (ad 6), .int p1])).length) Slot.unset).toArray = ls at hl ⊢
  have hl : lv_has ls 2 [(0, .ref (ad 6)), (1, .int p1)] := hl
  unfold f_X2_excess at h
  refine lv_aload_n hx hb dX2_excess_0 rfl (lv_at hl 0 rfl) ?_
  refine gg_6_5 hx hb hown E hM hk_6 kw_282 dX2_excess_1 ?_
  refine lv_iload_n hx hb dX2_excess_4 rfl (lv_at hl 1 rfl) ?_
  obtain ⟨c1, h⟩ := gchk_e h
  refine g_iald hx hb E hM hk_16 dd_16 c1 dX2_excess_5 ?_
  refine va_mabs hx hb (hml.trans hl.1.symm) hown (E.kw kw_1380) (E.kw kw_810) (E.kw kw_67) (E.kw kw_811) (Nat.le_of_ble_eq_true rfl) (Nat.le_of_ble_eq_true rfl) (Nat.le_of_ble_eq_true rfl) (Nat.le_of_ble_eq_true rfl) dX2_excess_6 ?_
  refine lv_aload_n hx hb dX2_excess_9 rfl (lv_at hl 0 rfl) ?_
  refine gg_6_6 hx hb hown E hM hk_6 kw_284 dX2_excess_10 ?_
  refine lv_iload_n hx hb dX2_excess_13 rfl (lv_at hl 1 rfl) ?_
  obtain ⟨c2, h⟩ := gchk_e h
  refine g_iald hx hb E hM hk_17 dd_17 c2 dX2_excess_14 ?_
  refine lv_isub hx hb dX2_excess_15 ?_
  obtain rfl := Option.some.inj h
  exact g_iret hx hb hr hlocks hM hS dX2_excess_16
def b_X2_badSet_4 (x1 : Int32) (x2 : Int32) (μ : gM) : Option ((Int32 × Int32) ⊕ (Int32)) :=
  if ((gi μ 6 1) ≤ x2) then some (.inr x1) else Option.bind (f_X2_excess x2 μ) (fun q2 => if (q2 ≤ 0) then some (.inl (x1, (x2 + (1 : Int32)))) else some (.inl ((x1 ||| ((1 : Int32) <<< (x2 &&& 31))), (x2 + (1 : Int32)))))
set_option maxHeartbeats 4000000 in
set_option maxRecDepth 100000 in
theorem wb_X2_badSet_4 {p : Program} {l : Launch} {e : Env} {s : State} {m : MethodId} {args : Array Value} {below : List Frame} {meth : Method} {c : Code} {D : va_G} {cy : Nat → ClassId} {ad : Nat → Nat} {base : gBs} {x1 : Int32} {x2 : Int32} {μ : gM} {o : (Int32 × Int32) ⊕ (Int32)} {RES : Int32} (h : b_X2_badSet_4 x1 x2 μ = some o) (F : gF p s m meth c cX2_badSet RX2 3 (some .int)) (E : gEnv l D cy ad base s) (kc : ∀ (t : Int32 × Int32) {H : Heap} {locs : List Loc} {ls : Array Slot}, o = .inl t → gW gFull D cy ad base μ H → va_S (gA base) s.heap H locs → lv_has ls 3 [(0, .ref (ad 6)), (1, .int t.1), (2, .int t.2)] → W p l e ({ frames := 2, cells := 0, slots := 0, locals := 42 } : Room) s m args below meth c H locs 0 0 (MQ below (gQ (some (.int RES)) gFull D cy ad base μ) args s 0 0 (gA base)) (F0 m 4 ls [])) (kx : ∀ (t : Int32) {H : Heap} {locs : List Loc} {ls : Array Slot}, o = .inr t → gW gFull D cy ad base μ H → va_S (gA base) s.heap H locs → lv_has ls 3 [(1, .int t)] → W p l e ({ frames := 2, cells := 0, slots := 0, locals := 42 } : Room) s m args below meth c H locs 0 0 (MQ below (gQ (some (.int RES)) gFull D cy ad base μ) args s 0 0 (gA base)) (F0 m 32 ls []))  {H : Heap} {locs : List Loc} {ls : Array Slot} (hM : gW gFull D cy ad base μ H) (hS : va_S (gA base) s.heap H locs) (hl : lv_has ls 3 [(0, .ref (ad 6)), (1, .int x1), (2, .int x2)]) : W p l e ({ frames := 2, cells := 0, slots := 0, locals := 42 } : Room) s m args below meth c H locs 0 0 (MQ below (gQ (some (.int RES)) gFull D cy ad base μ) args s 0 0 (gA base)) (F0 m 4 ls []) := by
  obtain ⟨hx, hb, hml, hown, hlocks, hr⟩ := id F
  unfold b_X2_badSet_4 at h
  refine lv_iload_n hx hb dX2_badSet_4 rfl (lv_at hl 2 rfl) ?_
  refine lv_aload_n hx hb dX2_badSet_5 rfl (lv_at hl 0 rfl) ?_
  refine gg_6_1 hx hb hown E hM hk_6 kw_274 dX2_badSet_6 ?_
  refine lv_icmp_ge (tgt := 32) hx hb dX2_badSet_9 (by decide) (fun c1 => ?_) (fun c1 => ?_)
  · replace h := gif_t c1 h
    exact kx _ (Option.some.inj h).symm hM hS (lv_sub hl [1] rfl)
  · replace h := gif_f c1 h
    refine lv_aload_n hx hb dX2_badSet_12 rfl (lv_at hl 0 rfl) ?_
    refine lv_iload_n hx hb dX2_badSet_13 rfl (lv_at hl 2 rfl) ?_
    obtain ⟨q2, hq2, h⟩ := gbind_e h
    refine g_callV (As := [.int x2]) (rest := []) hx hb (hml.trans hl.1.symm) hown E hM hS hy_X2_excess kw_1376 (c_X2_excess hq2) hk_6 dd_6 rfl rfl rfl (Nat.le_of_ble_eq_true rfl) ⟨Nat.le_of_ble_eq_true rfl, Nat.le_of_ble_eq_true rfl⟩ ⟨Nat.le_of_ble_eq_true rfl, Nat.le_of_ble_eq_true rfl⟩ dX2_badSet_14 (fun H locs hM hS => ?_)
    refine lv_if_le (tgt := 26) hx hb dX2_badSet_17 (by decide) (fun c3 => ?_) (fun c3 => ?_)
    · replace h := gif_t c3 h
      refine lv_iinc (v := (x2 + (1 : Int32))) (lv' := [(2, .int (x2 + (1 : Int32))), (0, .ref (ad 6)), (1, .int x1)]) hx hb dX2_badSet_26 hl (k := 2) rfl rfl (by decide) rfl (fun ls hl => ?_)
      refine lv_goto (tgt := 4) hx hb dX2_badSet_29 (by decide) ?_
      exact kc _ (Option.some.inj h).symm hM hS (lv_sub hl [1, 2, 0] rfl)
    · replace h := gif_f c3 h
      refine lv_iload_n hx hb dX2_badSet_20 rfl (lv_at hl 1 rfl) ?_
      refine lv_iconst (v := (1 : Int32)) hx hb dX2_badSet_21 (by decide) ?_
      refine lv_iload_n hx hb dX2_badSet_22 rfl (lv_at hl 2 rfl) ?_
      refine lv_ishl hx hb dX2_badSet_23 ?_
      refine lv_ior hx hb dX2_badSet_24 ?_
      refine lv_istore_n (lv' := [(1, .int (x1 ||| ((1 : Int32) <<< (x2 &&& 31)))), (0, .ref (ad 6)), (2, .int x2)]) hx hb dX2_badSet_25 rfl hl (by decide) rfl (fun ls hl => ?_)
      refine lv_iinc (v := (x2 + (1 : Int32))) (lv' := [(2, .int (x2 + (1 : Int32))), (1, .int (x1 ||| ((1 : Int32) <<< (x2 &&& 31)))), (0, .ref (ad 6))]) hx hb dX2_badSet_26 hl (k := 2) rfl rfl (by decide) rfl (fun ls hl => ?_)
      refine lv_goto (tgt := 4) hx hb dX2_badSet_29 (by decide) ?_
      exact kc _ (Option.some.inj h).symm hM hS (lv_sub hl [2, 1, 0] rfl)
set_option maxHeartbeats 4000000 in
theorem wl_X2_badSet_4 {p : Program} {l : Launch} {e : Env} {s : State} {m : MethodId} {args : Array Value} {below : List Frame} {meth : Method} {c : Code} {D : va_G} {cy : Nat → ClassId} {ad : Nat → Nat} {base : gBs}  {μ : gM} {r : Int32} {RES : Int32} (F : gF p s m meth c cX2_badSet RX2 3 (some .int)) (E : gEnv l D cy ad base s) (kx : ∀ (t : Int32) {H : Heap} {locs : List Loc} {ls : Array Slot}, r = t → gW gFull D cy ad base μ H → va_S (gA base) s.heap H locs → lv_has ls 3 [(1, .int t)] → W p l e ({ frames := 2, cells := 0, slots := 0, locals := 42 } : Room) s m args below meth c H locs 0 0 (MQ below (gQ (some (.int RES)) gFull D cy ad base μ) args s 0 0 (gA base)) (F0 m 32 ls []))  : ∀ (n : Nat) (x1 : Int32) (x2 : Int32), gloop (fun t => b_X2_badSet_4  t.1 t.2 μ) n (x1, x2) = some r → ∀ {H : Heap} {locs : List Loc} {ls : Array Slot}, gW gFull D cy ad base μ H → va_S (gA base) s.heap H locs → lv_has ls 3 [(0, .ref (ad 6)), (1, .int x1), (2, .int x2)] → W p l e ({ frames := 2, cells := 0, slots := 0, locals := 42 } : Room) s m args below meth c H locs 0 0 (MQ below (gQ (some (.int RES)) gFull D cy ad base μ) args s 0 0 (gA base)) (F0 m 4 ls []) := by
  intro n
  induction n with
  | zero =>
    intro x1 x2 h
    exact (gloop_0 h).elim
  | succ n ih =>
    intro x1 x2 h H locs ls hM hS hl
    obtain ⟨o, h0, hc, hq⟩ := gloop_s h
    have h1 : b_X2_badSet_4 x1 x2 μ = some o := h0
    exact wb_X2_badSet_4 h1 F E (fun t H locs ls ho hM hS hl => ih t.1 t.2 (hc t ho) hM hS hl) (fun t H locs ls ho hM hS hl => kx t (hq _ ho).symm hM hS hl) hM hS hl
def f_X2_badSet (μ : gM) : Option (Int32) :=
  Option.bind (gloop (fun t => b_X2_badSet_4  t.1 t.2 μ) gFuel ((0 : Int32), (0 : Int32))) (fun q4 => some q4)
set_option maxHeartbeats 4000000 in
set_option maxRecDepth 100000 in
theorem c_X2_badSet {l : Launch} {D : va_G} {cy : Nat → ClassId} {ad : Nat → Nat} {base : gBs}  {μ : gM} {RES : Int32} (h : f_X2_badSet  μ = some RES) : Met l yX2_badSet [.code yX2_badSet cX2_badSet 3 (some .int)] ({ frames := 2, cells := 0, slots := 0, locals := 42 } : Room) (va_Pc [.ref (ad 6)] (gB l gFull D cy ad base μ)) (gQ (some (.int RES)) gFull D cy ad base μ) 0 0 (gA base) := by
  refine Met.ofW (cc := cX2_badSet) (maxL := 3) (ret := (some .int)) (by decide) rfl ?_
  intro p e s m args below meth c s₁ B hml0 hv
  obtain ⟨rfl, E, hM⟩ := hv
  have F : gF p s m meth c cX2_badSet RX2 3 (some .int) := gF_of B hml0
  obtain ⟨hx, hb, hml, hown, hlocks, hr⟩ := id F
  have hS : va_S (gA base) s.heap s.heap [] := va_S.rf
  have hl := lv_entry ([.ref (ad 6)]) (n := 3) (Nat.le_of_ble_eq_true rfl)
  rw [lg_entry_eq]
  generalize (lg_sl ([.ref (ad 6)]) ++ List.replicate (3 - (lg_sl ([.ref (ad 6)])).length) Slot.unset).toArray = ls at hl ⊢
  have hl : lv_has ls 3 [(0, .ref (ad 6))] := hl
  unfold f_X2_badSet at h
  refine lv_iconst (v := (0 : Int32)) hx hb dX2_badSet_0 (by decide) ?_
  refine lv_istore_n (lv' := [(1, .int (0 : Int32)), (0, .ref (ad 6))]) hx hb dX2_badSet_1 rfl hl (by decide) rfl (fun ls hl => ?_)
  refine lv_iconst (v := (0 : Int32)) hx hb dX2_badSet_2 (by decide) ?_
  refine lv_istore_n (lv' := [(2, .int (0 : Int32)), (1, .int (0 : Int32)), (0, .ref (ad 6))]) hx hb dX2_badSet_3 rfl hl (by decide) rfl (fun ls hl => ?_)
  obtain ⟨z5, h1, h⟩ := gbind_e h
  refine wl_X2_badSet_4 F E (r := z5) (fun q4 H locs ls e1 hM hS hl => ?_) gFuel (0 : Int32) (0 : Int32) h1 hM hS (lv_sub hl [2, 1, 0] rfl)
  replace e1 : z5 = q4 := e1
  rw [e1] at h
  refine lv_iload_n hx hb dX2_badSet_32 rfl (lv_at hl 0 rfl) ?_
  obtain rfl := Option.some.inj h
  exact g_iret hx hb hr hlocks hM hS dX2_badSet_33
