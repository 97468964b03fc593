theorem dX4_append_0 : decode cX4_append 0 = .ok (.bipush 24, 2) := by decide +kernel
theorem dX4_append_2 : decode cX4_append 2 = .ok (.istore_n 2, 1) := by decide +kernel
theorem dX4_append_3 : decode cX4_append 3 = .ok (.iload_n 2, 1) := by decide +kernel
theorem dX4_append_4 : decode cX4_append 4 = .ok (.ifCond .lt 32, 3) := by decide +kernel
theorem dX4_append_7 : decode cX4_append 7 = .ok (.aload_n 0, 1) := by decide +kernel
theorem dX4_append_8 : decode cX4_append 8 = .ok (.getfield 9, 3) := by decide +kernel
theorem dX4_append_11 : decode cX4_append 11 = .ok (.aload_n 0, 1) := by decide +kernel
theorem dX4_append_12 : decode cX4_append 12 = .ok (.getfield 15, 3) := by decide +kernel
theorem dX4_append_15 : decode cX4_append 15 = .ok (.iload_n 1, 1) := by decide +kernel
theorem dX4_append_16 : decode cX4_append 16 = .ok (.iload_n 2, 1) := by decide +kernel
theorem dX4_append_17 : decode cX4_append 17 = .ok (.ishr, 1) := by decide +kernel
theorem dX4_append_18 : decode cX4_append 18 = .ok (.i2b, 1) := by decide +kernel
theorem dX4_append_19 : decode cX4_append 19 = .ok (.bastore, 1) := by decide +kernel
theorem dX4_append_20 : decode cX4_append 20 = .ok (.aload_n 0, 1) := by decide +kernel
theorem dX4_append_21 : decode cX4_append 21 = .ok (.dup, 1) := by decide +kernel
theorem dX4_append_22 : decode cX4_append 22 = .ok (.getfield 15, 3) := by decide +kernel
theorem dX4_append_25 : decode cX4_append 25 = .ok (.iconst 1, 1) := by decide +kernel
theorem dX4_append_26 : decode cX4_append 26 = .ok (.iadd, 1) := by decide +kernel
theorem dX4_append_27 : decode cX4_append 27 = .ok (.putfield 15, 3) := by decide +kernel
theorem dX4_append_30 : decode cX4_append 30 = .ok (.iinc 2 (-8), 3) := by decide +kernel
theorem dX4_append_33 : decode cX4_append 33 = .ok (.goto (-30), 3) := by decide +kernel
theorem dX4_append_36 : decode cX4_append 36 = .ok (.return_, 1) := by decide +kernel
theorem dX4_scanInteger_0 : decode cX4_scanInteger 0 = .ok (.aload_n 0, 1) := by decide +kernel
theorem dX4_scanInteger_1 : decode cX4_scanInteger 1 = .ok (.iconst 2, 1) := by decide +kernel
theorem dX4_scanInteger_2 : decode cX4_scanInteger 2 = .ok (.putfield 36, 3) := by decide +kernel
theorem dX4_scanInteger_5 : decode cX4_scanInteger 5 = .ok (.aload_n 0, 1) := by decide +kernel
theorem dX4_scanInteger_6 : decode cX4_scanInteger 6 = .ok (.iconst 0, 1) := by decide +kernel
theorem dX4_scanInteger_7 : decode cX4_scanInteger 7 = .ok (.putfield 98, 3) := by decide +kernel
theorem dX4_scanInteger_10 : decode cX4_scanInteger 10 = .ok (.aload_n 0, 1) := by decide +kernel
theorem dX4_scanInteger_11 : decode cX4_scanInteger 11 = .ok (.getfield 22, 3) := by decide +kernel
theorem dX4_scanInteger_14 : decode cX4_scanInteger 14 = .ok (.aload_n 0, 1) := by decide +kernel
theorem dX4_scanInteger_15 : decode cX4_scanInteger 15 = .ok (.getfield 19, 3) := by decide +kernel
theorem dX4_scanInteger_18 : decode cX4_scanInteger 18 = .ok (.if_icmp .ge 77, 3) := by decide +kernel
theorem dX4_scanInteger_21 : decode cX4_scanInteger 21 = .ok (.aload_n 0, 1) := by decide +kernel
theorem dX4_scanInteger_22 : decode cX4_scanInteger 22 = .ok (.getfield 9, 3) := by decide +kernel
theorem dX4_scanInteger_25 : decode cX4_scanInteger 25 = .ok (.aload_n 0, 1) := by decide +kernel
theorem dX4_scanInteger_26 : decode cX4_scanInteger 26 = .ok (.getfield 22, 3) := by decide +kernel
theorem dX4_scanInteger_29 : decode cX4_scanInteger 29 = .ok (.baload, 1) := by decide +kernel
theorem dX4_scanInteger_30 : decode cX4_scanInteger 30 = .ok (.bipush 48, 2) := by decide +kernel
theorem dX4_scanInteger_32 : decode cX4_scanInteger 32 = .ok (.if_icmp .lt 63, 3) := by decide +kernel
theorem dX4_scanInteger_35 : decode cX4_scanInteger 35 = .ok (.aload_n 0, 1) := by decide +kernel
theorem dX4_scanInteger_36 : decode cX4_scanInteger 36 = .ok (.getfield 9, 3) := by decide +kernel
theorem dX4_scanInteger_39 : decode cX4_scanInteger 39 = .ok (.aload_n 0, 1) := by decide +kernel
theorem dX4_scanInteger_40 : decode cX4_scanInteger 40 = .ok (.getfield 22, 3) := by decide +kernel
theorem dX4_scanInteger_43 : decode cX4_scanInteger 43 = .ok (.baload, 1) := by decide +kernel
theorem dX4_scanInteger_44 : decode cX4_scanInteger 44 = .ok (.bipush 57, 2) := by decide +kernel
theorem dX4_scanInteger_46 : decode cX4_scanInteger 46 = .ok (.if_icmp .gt 49, 3) := by decide +kernel
theorem dX4_scanInteger_49 : decode cX4_scanInteger 49 = .ok (.aload_n 0, 1) := by decide +kernel
theorem dX4_scanInteger_50 : decode cX4_scanInteger 50 = .ok (.getfield 98, 3) := by decide +kernel
theorem dX4_scanInteger_53 : decode cX4_scanInteger 53 = .ok (.ldc 114, 2) := by decide +kernel
theorem dX4_scanInteger_55 : decode cX4_scanInteger 55 = .ok (.if_icmp .gt 27, 3) := by decide +kernel
theorem dX4_scanInteger_58 : decode cX4_scanInteger 58 = .ok (.aload_n 0, 1) := by decide +kernel
theorem dX4_scanInteger_59 : decode cX4_scanInteger 59 = .ok (.bipush 10, 2) := by decide +kernel
theorem dX4_scanInteger_61 : decode cX4_scanInteger 61 = .ok (.aload_n 0, 1) := by decide +kernel
theorem dX4_scanInteger_62 : decode cX4_scanInteger 62 = .ok (.getfield 98, 3) := by decide +kernel
theorem dX4_scanInteger_65 : decode cX4_scanInteger 65 = .ok (.imul, 1) := by decide +kernel
theorem dX4_scanInteger_66 : decode cX4_scanInteger 66 = .ok (.aload_n 0, 1) := by decide +kernel
theorem dX4_scanInteger_67 : decode cX4_scanInteger 67 = .ok (.getfield 9, 3) := by decide +kernel
theorem dX4_scanInteger_70 : decode cX4_scanInteger 70 = .ok (.aload_n 0, 1) := by decide +kernel
theorem dX4_scanInteger_71 : decode cX4_scanInteger 71 = .ok (.getfield 22, 3) := by decide +kernel
theorem dX4_scanInteger_74 : decode cX4_scanInteger 74 = .ok (.baload, 1) := by decide +kernel
theorem dX4_scanInteger_75 : decode cX4_scanInteger 75 = .ok (.bipush 48, 2) := by decide +kernel
theorem dX4_scanInteger_77 : decode cX4_scanInteger 77 = .ok (.isub, 1) := by decide +kernel
theorem dX4_scanInteger_78 : decode cX4_scanInteger 78 = .ok (.iadd, 1) := by decide +kernel
theorem dX4_scanInteger_79 : decode cX4_scanInteger 79 = .ok (.putfield 98, 3) := by decide +kernel
theorem dX4_scanInteger_82 : decode cX4_scanInteger 82 = .ok (.aload_n 0, 1) := by decide +kernel
theorem dX4_scanInteger_83 : decode cX4_scanInteger 83 = .ok (.dup, 1) := by decide +kernel
theorem dX4_scanInteger_84 : decode cX4_scanInteger 84 = .ok (.getfield 22, 3) := by decide +kernel
theorem dX4_scanInteger_87 : decode cX4_scanInteger 87 = .ok (.iconst 1, 1) := by decide +kernel
theorem dX4_scanInteger_88 : decode cX4_scanInteger 88 = .ok (.iadd, 1) := by decide +kernel
theorem dX4_scanInteger_89 : decode cX4_scanInteger 89 = .ok (.putfield 22, 3) := by decide +kernel
theorem dX4_scanInteger_92 : decode cX4_scanInteger 92 = .ok (.goto (-82), 3) := by decide +kernel
theorem dX4_scanInteger_95 : decode cX4_scanInteger 95 = .ok (.return_, 1) := by decide +kernel
theorem dX4_scanWord_0 : decode cX4_scanWord 0 = .ok (.aload_n 0, 1) := by decide +kernel
theorem dX4_scanWord_1 : decode cX4_scanWord 1 = .ok (.iconst 1, 1) := by decide +kernel
theorem dX4_scanWord_2 : decode cX4_scanWord 2 = .ok (.putfield 36, 3) := by decide +kernel
theorem dX4_scanWord_5 : decode cX4_scanWord 5 = .ok (.aload_n 0, 1) := by decide +kernel
theorem dX4_scanWord_6 : decode cX4_scanWord 6 = .ok (.iconst 0, 1) := by decide +kernel
theorem dX4_scanWord_7 : decode cX4_scanWord 7 = .ok (.putfield 91, 3) := by decide +kernel
theorem dX4_scanWord_10 : decode cX4_scanWord 10 = .ok (.aload_n 0, 1) := by decide +kernel
theorem dX4_scanWord_11 : decode cX4_scanWord 11 = .ok (.getfield 22, 3) := by decide +kernel
theorem dX4_scanWord_14 : decode cX4_scanWord 14 = .ok (.aload_n 0, 1) := by decide +kernel
theorem dX4_scanWord_15 : decode cX4_scanWord 15 = .ok (.getfield 19, 3) := by decide +kernel
theorem dX4_scanWord_18 : decode cX4_scanWord 18 = .ok (.if_icmp .ge 89, 3) := by decide +kernel
theorem dX4_scanWord_21 : decode cX4_scanWord 21 = .ok (.aload_n 0, 1) := by decide +kernel
theorem dX4_scanWord_22 : decode cX4_scanWord 22 = .ok (.getfield 9, 3) := by decide +kernel
theorem dX4_scanWord_25 : decode cX4_scanWord 25 = .ok (.aload_n 0, 1) := by decide +kernel
theorem dX4_scanWord_26 : decode cX4_scanWord 26 = .ok (.getfield 22, 3) := by decide +kernel
theorem dX4_scanWord_29 : decode cX4_scanWord 29 = .ok (.baload, 1) := by decide +kernel
theorem dX4_scanWord_30 : decode cX4_scanWord 30 = .ok (.bipush 97, 2) := by decide +kernel
theorem dX4_scanWord_32 : decode cX4_scanWord 32 = .ok (.if_icmp .lt 75, 3) := by decide +kernel
theorem dX4_scanWord_35 : decode cX4_scanWord 35 = .ok (.aload_n 0, 1) := by decide +kernel
theorem dX4_scanWord_36 : decode cX4_scanWord 36 = .ok (.getfield 9, 3) := by decide +kernel
theorem dX4_scanWord_39 : decode cX4_scanWord 39 = .ok (.aload_n 0, 1) := by decide +kernel
theorem dX4_scanWord_40 : decode cX4_scanWord 40 = .ok (.getfield 22, 3) := by decide +kernel
theorem dX4_scanWord_43 : decode cX4_scanWord 43 = .ok (.baload, 1) := by decide +kernel
theorem dX4_scanWord_44 : decode cX4_scanWord 44 = .ok (.bipush 122, 2) := by decide +kernel
theorem dX4_scanWord_46 : decode cX4_scanWord 46 = .ok (.if_icmp .gt 61, 3) := by decide +kernel
theorem dX4_scanWord_49 : decode cX4_scanWord 49 = .ok (.aload_n 0, 1) := by decide +kernel
theorem dX4_scanWord_50 : decode cX4_scanWord 50 = .ok (.getfield 22, 3) := by decide +kernel
theorem dX4_scanWord_53 : decode cX4_scanWord 53 = .ok (.aload_n 0, 1) := by decide +kernel
theorem dX4_scanWord_54 : decode cX4_scanWord 54 = .ok (.getfield 200, 3) := by decide +kernel
theorem dX4_scanWord_57 : decode cX4_scanWord 57 = .ok (.isub, 1) := by decide +kernel
theorem dX4_scanWord_58 : decode cX4_scanWord 58 = .ok (.istore_n 1, 1) := by decide +kernel
theorem dX4_scanWord_59 : decode cX4_scanWord 59 = .ok (.iload_n 1, 1) := by decide +kernel
theorem dX4_scanWord_60 : decode cX4_scanWord 60 = .ok (.bipush 6, 2) := by decide +kernel
theorem dX4_scanWord_62 : decode cX4_scanWord 62 = .ok (.if_icmp .ge 32, 3) := by decide +kernel
theorem dX4_scanWord_65 : decode cX4_scanWord 65 = .ok (.aload_n 0, 1) := by decide +kernel
theorem dX4_scanWord_66 : decode cX4_scanWord 66 = .ok (.dup, 1) := by decide +kernel
theorem dX4_scanWord_67 : decode cX4_scanWord 67 = .ok (.getfield 91, 3) := by decide +kernel
theorem dX4_scanWord_70 : decode cX4_scanWord 70 = .ok (.aload_n 0, 1) := by decide +kernel
theorem dX4_scanWord_71 : decode cX4_scanWord 71 = .ok (.getfield 9, 3) := by decide +kernel
theorem dX4_scanWord_74 : decode cX4_scanWord 74 = .ok (.aload_n 0, 1) := by decide +kernel
theorem dX4_scanWord_75 : decode cX4_scanWord 75 = .ok (.getfield 22, 3) := by decide +kernel
theorem dX4_scanWord_78 : decode cX4_scanWord 78 = .ok (.baload, 1) := by decide +kernel
theorem dX4_scanWord_79 : decode cX4_scanWord 79 = .ok (.bipush 97, 2) := by decide +kernel
theorem dX4_scanWord_81 : decode cX4_scanWord 81 = .ok (.isub, 1) := by decide +kernel
theorem dX4_scanWord_82 : decode cX4_scanWord 82 = .ok (.iconst 1, 1) := by decide +kernel
theorem dX4_scanWord_83 : decode cX4_scanWord 83 = .ok (.iadd, 1) := by decide +kernel
theorem dX4_scanWord_84 : decode cX4_scanWord 84 = .ok (.iconst 5, 1) := by decide +kernel
theorem dX4_scanWord_85 : decode cX4_scanWord 85 = .ok (.iconst 5, 1) := by decide +kernel
theorem dX4_scanWord_86 : decode cX4_scanWord 86 = .ok (.iload_n 1, 1) := by decide +kernel
theorem dX4_scanWord_87 : decode cX4_scanWord 87 = .ok (.isub, 1) := by decide +kernel
theorem dX4_scanWord_88 : decode cX4_scanWord 88 = .ok (.imul, 1) := by decide +kernel
theorem dX4_scanWord_89 : decode cX4_scanWord 89 = .ok (.ishl, 1) := by decide +kernel
theorem dX4_scanWord_90 : decode cX4_scanWord 90 = .ok (.ior, 1) := by decide +kernel
theorem dX4_scanWord_91 : decode cX4_scanWord 91 = .ok (.putfield 91, 3) := by decide +kernel
theorem dX4_scanWord_94 : decode cX4_scanWord 94 = .ok (.aload_n 0, 1) := by decide +kernel
theorem dX4_scanWord_95 : decode cX4_scanWord 95 = .ok (.dup, 1) := by decide +kernel
theorem dX4_scanWord_96 : decode cX4_scanWord 96 = .ok (.getfield 22, 3) := by decide +kernel
theorem dX4_scanWord_99 : decode cX4_scanWord 99 = .ok (.iconst 1, 1) := by decide +kernel
theorem dX4_scanWord_100 : decode cX4_scanWord 100 = .ok (.iadd, 1) := by decide +kernel
theorem dX4_scanWord_101 : decode cX4_scanWord 101 = .ok (.putfield 22, 3) := by decide +kernel
theorem dX4_scanWord_104 : decode cX4_scanWord 104 = .ok (.goto (-94), 3) := by decide +kernel
theorem dX4_scanWord_107 : decode cX4_scanWord 107 = .ok (.return_, 1) := by decide +kernel
theorem dX4_advance_0 : decode cX4_advance 0 = .ok (.aload_n 0, 1) := by decide +kernel
theorem dX4_advance_1 : decode cX4_advance 1 = .ok (.aload_n 0, 1) := by decide +kernel
theorem dX4_advance_2 : decode cX4_advance 2 = .ok (.getfield 22, 3) := by decide +kernel
theorem dX4_advance_5 : decode cX4_advance 5 = .ok (.putfield 200, 3) := by decide +kernel
theorem dX4_advance_8 : decode cX4_advance 8 = .ok (.aload_n 0, 1) := by decide +kernel
theorem dX4_advance_9 : decode cX4_advance 9 = .ok (.getfield 200, 3) := by decide +kernel
theorem dX4_advance_12 : decode cX4_advance 12 = .ok (.aload_n 0, 1) := by decide +kernel
theorem dX4_advance_13 : decode cX4_advance 13 = .ok (.getfield 19, 3) := by decide +kernel
theorem dX4_advance_16 : decode cX4_advance 16 = .ok (.if_icmp .ge 44, 3) := by decide +kernel
theorem dX4_advance_19 : decode cX4_advance 19 = .ok (.aload_n 0, 1) := by decide +kernel
theorem dX4_advance_20 : decode cX4_advance 20 = .ok (.getfield 9, 3) := by decide +kernel
theorem dX4_advance_23 : decode cX4_advance 23 = .ok (.aload_n 0, 1) := by decide +kernel
theorem dX4_advance_24 : decode cX4_advance 24 = .ok (.getfield 200, 3) := by decide +kernel
theorem dX4_advance_27 : decode cX4_advance 27 = .ok (.baload, 1) := by decide +kernel
theorem dX4_advance_28 : decode cX4_advance 28 = .ok (.bipush 32, 2) := by decide +kernel
theorem dX4_advance_30 : decode cX4_advance 30 = .ok (.if_icmp .eq 17, 3) := by decide +kernel
theorem dX4_advance_33 : decode cX4_advance 33 = .ok (.aload_n 0, 1) := by decide +kernel
theorem dX4_advance_34 : decode cX4_advance 34 = .ok (.getfield 9, 3) := by decide +kernel
theorem dX4_advance_37 : decode cX4_advance 37 = .ok (.aload_n 0, 1) := by decide +kernel
theorem dX4_advance_38 : decode cX4_advance 38 = .ok (.getfield 200, 3) := by decide +kernel
theorem dX4_advance_41 : decode cX4_advance 41 = .ok (.baload, 1) := by decide +kernel
theorem dX4_advance_42 : decode cX4_advance 42 = .ok (.bipush 10, 2) := by decide +kernel
theorem dX4_advance_44 : decode cX4_advance 44 = .ok (.if_icmp .ne 16, 3) := by decide +kernel
theorem dX4_advance_47 : decode cX4_advance 47 = .ok (.aload_n 0, 1) := by decide +kernel
theorem dX4_advance_48 : decode cX4_advance 48 = .ok (.dup, 1) := by decide +kernel
theorem dX4_advance_49 : decode cX4_advance 49 = .ok (.getfield 200, 3) := by decide +kernel
theorem dX4_advance_52 : decode cX4_advance 52 = .ok (.iconst 1, 1) := by decide +kernel
theorem dX4_advance_53 : decode cX4_advance 53 = .ok (.iadd, 1) := by decide +kernel
theorem dX4_advance_54 : decode cX4_advance 54 = .ok (.putfield 200, 3) := by decide +kernel
theorem dX4_advance_57 : decode cX4_advance 57 = .ok (.goto (-49), 3) := by decide +kernel
theorem dX4_advance_60 : decode cX4_advance 60 = .ok (.aload_n 0, 1) := by decide +kernel
theorem dX4_advance_61 : decode cX4_advance 61 = .ok (.aload_n 0, 1) := by decide +kernel
theorem dX4_advance_62 : decode cX4_advance 62 = .ok (.getfield 200, 3) := by decide +kernel
theorem dX4_advance_65 : decode cX4_advance 65 = .ok (.putfield 22, 3) := by decide +kernel
theorem dX4_advance_68 : decode cX4_advance 68 = .ok (.aload_n 0, 1) := by decide +kernel
theorem dX4_advance_69 : decode cX4_advance 69 = .ok (.getfield 200, 3) := by decide +kernel
theorem dX4_advance_72 : decode cX4_advance 72 = .ok (.aload_n 0, 1) := by decide +kernel
theorem dX4_advance_73 : decode cX4_advance 73 = .ok (.getfield 19, 3) := by decide +kernel
theorem dX4_advance_76 : decode cX4_advance 76 = .ok (.if_icmp .lt 11, 3) := by decide +kernel
theorem dX4_advance_79 : decode cX4_advance 79 = .ok (.aload_n 0, 1) := by decide +kernel
theorem dX4_advance_80 : decode cX4_advance 80 = .ok (.iconst 0, 1) := by decide +kernel
theorem dX4_advance_81 : decode cX4_advance 81 = .ok (.putfield 36, 3) := by decide +kernel
theorem dX4_advance_84 : decode cX4_advance 84 = .ok (.goto 106, 3) := by decide +kernel
theorem dX4_advance_87 : decode cX4_advance 87 = .ok (.aload_n 0, 1) := by decide +kernel
theorem dX4_advance_88 : decode cX4_advance 88 = .ok (.getfield 9, 3) := by decide +kernel
theorem dX4_advance_91 : decode cX4_advance 91 = .ok (.aload_n 0, 1) := by decide +kernel
theorem dX4_advance_92 : decode cX4_advance 92 = .ok (.getfield 200, 3) := by decide +kernel
theorem dX4_advance_95 : decode cX4_advance 95 = .ok (.baload, 1) := by decide +kernel
theorem dX4_advance_96 : decode cX4_advance 96 = .ok (.bipush 97, 2) := by decide +kernel
theorem dX4_advance_98 : decode cX4_advance 98 = .ok (.if_icmp .lt 24, 3) := by decide +kernel
theorem dX4_advance_101 : decode cX4_advance 101 = .ok (.aload_n 0, 1) := by decide +kernel
theorem dX4_advance_102 : decode cX4_advance 102 = .ok (.getfield 9, 3) := by decide +kernel
theorem dX4_advance_105 : decode cX4_advance 105 = .ok (.aload_n 0, 1) := by decide +kernel
theorem dX4_advance_106 : decode cX4_advance 106 = .ok (.getfield 200, 3) := by decide +kernel
theorem dX4_advance_109 : decode cX4_advance 109 = .ok (.baload, 1) := by decide +kernel
theorem dX4_advance_110 : decode cX4_advance 110 = .ok (.bipush 122, 2) := by decide +kernel
theorem dX4_advance_112 : decode cX4_advance 112 = .ok (.if_icmp .gt 10, 3) := by decide +kernel
theorem dX4_advance_115 : decode cX4_advance 115 = .ok (.aload_n 0, 1) := by decide +kernel
theorem dX4_advance_116 : decode cX4_advance 116 = .ok (.invokevirtual 203, 3) := by decide +kernel
theorem dX4_advance_119 : decode cX4_advance 119 = .ok (.goto 71, 3) := by decide +kernel
theorem dX4_advance_122 : decode cX4_advance 122 = .ok (.aload_n 0, 1) := by decide +kernel
theorem dX4_advance_123 : decode cX4_advance 123 = .ok (.getfield 9, 3) := by decide +kernel
theorem dX4_advance_126 : decode cX4_advance 126 = .ok (.aload_n 0, 1) := by decide +kernel
theorem dX4_advance_127 : decode cX4_advance 127 = .ok (.getfield 200, 3) := by decide +kernel
theorem dX4_advance_130 : decode cX4_advance 130 = .ok (.baload, 1) := by decide +kernel
theorem dX4_advance_131 : decode cX4_advance 131 = .ok (.bipush 48, 2) := by decide +kernel
theorem dX4_advance_133 : decode cX4_advance 133 = .ok (.if_icmp .lt 24, 3) := by decide +kernel
theorem dX4_advance_136 : decode cX4_advance 136 = .ok (.aload_n 0, 1) := by decide +kernel
theorem dX4_advance_137 : decode cX4_advance 137 = .ok (.getfield 9, 3) := by decide +kernel
theorem dX4_advance_140 : decode cX4_advance 140 = .ok (.aload_n 0, 1) := by decide +kernel
theorem dX4_advance_141 : decode cX4_advance 141 = .ok (.getfield 200, 3) := by decide +kernel
theorem dX4_advance_144 : decode cX4_advance 144 = .ok (.baload, 1) := by decide +kernel
theorem dX4_advance_145 : decode cX4_advance 145 = .ok (.bipush 57, 2) := by decide +kernel
theorem dX4_advance_147 : decode cX4_advance 147 = .ok (.if_icmp .gt 10, 3) := by decide +kernel
theorem dX4_advance_150 : decode cX4_advance 150 = .ok (.aload_n 0, 1) := by decide +kernel
theorem dX4_advance_151 : decode cX4_advance 151 = .ok (.invokevirtual 206, 3) := by decide +kernel
theorem dX4_advance_154 : decode cX4_advance 154 = .ok (.goto 36, 3) := by decide +kernel
theorem dX4_advance_157 : decode cX4_advance 157 = .ok (.aload_n 0, 1) := by decide +kernel
theorem dX4_advance_158 : decode cX4_advance 158 = .ok (.aload_n 0, 1) := by decide +kernel
theorem dX4_advance_159 : decode cX4_advance 159 = .ok (.getfield 9, 3) := by decide +kernel
theorem dX4_advance_162 : decode cX4_advance 162 = .ok (.aload_n 0, 1) := by decide +kernel
theorem dX4_advance_163 : decode cX4_advance 163 = .ok (.getfield 200, 3) := by decide +kernel
theorem dX4_advance_166 : decode cX4_advance 166 = .ok (.baload, 1) := by decide +kernel
theorem dX4_advance_167 : decode cX4_advance 167 = .ok (.bipush 59, 2) := by decide +kernel
theorem dX4_advance_169 : decode cX4_advance 169 = .ok (.if_icmp .ne 7, 3) := by decide +kernel
theorem dX4_advance_172 : decode cX4_advance 172 = .ok (.iconst 3, 1) := by decide +kernel
theorem dX4_advance_173 : decode cX4_advance 173 = .ok (.goto 4, 3) := by decide +kernel
theorem dX4_advance_176 : decode cX4_advance 176 = .ok (.iconst 4, 1) := by decide +kernel
theorem dX4_advance_177 : decode cX4_advance 177 = .ok (.putfield 36, 3) := by decide +kernel
theorem dX4_advance_180 : decode cX4_advance 180 = .ok (.aload_n 0, 1) := by decide +kernel
theorem dX4_advance_181 : decode cX4_advance 181 = .ok (.dup, 1) := by decide +kernel
theorem dX4_advance_182 : decode cX4_advance 182 = .ok (.getfield 22, 3) := by decide +kernel
theorem dX4_advance_185 : decode cX4_advance 185 = .ok (.iconst 1, 1) := by decide +kernel
theorem dX4_advance_186 : decode cX4_advance 186 = .ok (.iadd, 1) := by decide +kernel
theorem dX4_advance_187 : decode cX4_advance 187 = .ok (.putfield 22, 3) := by decide +kernel
theorem dX4_advance_190 : decode cX4_advance 190 = .ok (.return_, 1) := by decide +kernel
theorem dX4_isWord_0 : decode cX4_isWord 0 = .ok (.aload_n 0, 1) := by decide +kernel
theorem dX4_isWord_1 : decode cX4_isWord 1 = .ok (.getfield 36, 3) := by decide +kernel
theorem dX4_isWord_4 : decode cX4_isWord 4 = .ok (.iconst 1, 1) := by decide +kernel
theorem dX4_isWord_5 : decode cX4_isWord 5 = .ok (.if_icmp .ne 17, 3) := by decide +kernel
theorem dX4_isWord_8 : decode cX4_isWord 8 = .ok (.aload_n 0, 1) := by decide +kernel
theorem dX4_isWord_9 : decode cX4_isWord 9 = .ok (.getfield 22, 3) := by decide +kernel
theorem dX4_isWord_12 : decode cX4_isWord 12 = .ok (.aload_n 0, 1) := by decide +kernel
theorem dX4_isWord_13 : decode cX4_isWord 13 = .ok (.getfield 200, 3) := by decide +kernel
theorem dX4_isWord_16 : decode cX4_isWord 16 = .ok (.isub, 1) := by decide +kernel
theorem dX4_isWord_17 : decode cX4_isWord 17 = .ok (.aload_n 1, 1) := by decide +kernel
theorem dX4_isWord_18 : decode cX4_isWord 18 = .ok (.arraylength, 1) := by decide +kernel
theorem dX4_isWord_19 : decode cX4_isWord 19 = .ok (.if_icmp .eq 5, 3) := by decide +kernel
theorem dX4_isWord_22 : decode cX4_isWord 22 = .ok (.iconst 0, 1) := by decide +kernel
theorem dX4_isWord_23 : decode cX4_isWord 23 = .ok (.ireturn, 1) := by decide +kernel
theorem dX4_isWord_24 : decode cX4_isWord 24 = .ok (.iconst 0, 1) := by decide +kernel
theorem dX4_isWord_25 : decode cX4_isWord 25 = .ok (.istore_n 2, 1) := by decide +kernel
theorem dX4_isWord_26 : decode cX4_isWord 26 = .ok (.iload_n 2, 1) := by decide +kernel
theorem dX4_isWord_27 : decode cX4_isWord 27 = .ok (.aload_n 1, 1) := by decide +kernel
theorem dX4_isWord_28 : decode cX4_isWord 28 = .ok (.arraylength, 1) := by decide +kernel
theorem dX4_isWord_29 : decode cX4_isWord 29 = .ok (.if_icmp .ge 28, 3) := by decide +kernel
theorem dX4_isWord_32 : decode cX4_isWord 32 = .ok (.aload_n 0, 1) := by decide +kernel
theorem dX4_isWord_33 : decode cX4_isWord 33 = .ok (.getfield 9, 3) := by decide +kernel
theorem dX4_isWord_36 : decode cX4_isWord 36 = .ok (.aload_n 0, 1) := by decide +kernel
theorem dX4_isWord_37 : decode cX4_isWord 37 = .ok (.getfield 200, 3) := by decide +kernel
theorem dX4_isWord_40 : decode cX4_isWord 40 = .ok (.iload_n 2, 1) := by decide +kernel
theorem dX4_isWord_41 : decode cX4_isWord 41 = .ok (.iadd, 1) := by decide +kernel
theorem dX4_isWord_42 : decode cX4_isWord 42 = .ok (.baload, 1) := by decide +kernel
theorem dX4_isWord_43 : decode cX4_isWord 43 = .ok (.aload_n 1, 1) := by decide +kernel
theorem dX4_isWord_44 : decode cX4_isWord 44 = .ok (.iload_n 2, 1) := by decide +kernel
theorem dX4_isWord_45 : decode cX4_isWord 45 = .ok (.caload, 1) := by decide +kernel
theorem dX4_isWord_46 : decode cX4_isWord 46 = .ok (.if_icmp .eq 5, 3) := by decide +kernel
theorem dX4_isWord_49 : decode cX4_isWord 49 = .ok (.iconst 0, 1) := by decide +kernel
theorem dX4_isWord_50 : decode cX4_isWord 50 = .ok (.ireturn, 1) := by decide +kernel
theorem dX4_isWord_51 : decode cX4_isWord 51 = .ok (.iinc 2 1, 3) := by decide +kernel
theorem dX4_isWord_54 : decode cX4_isWord 54 = .ok (.goto (-28), 3) := by decide +kernel
theorem dX4_isWord_57 : decode cX4_isWord 57 = .ok (.iconst 1, 1) := by decide +kernel
theorem dX4_isWord_58 : decode cX4_isWord 58 = .ok (.ireturn, 1) := by decide +kernel
theorem dX4_fail_0 : decode cX4_fail 0 = .ok (.aload_n 0, 1) := by decide +kernel
theorem dX4_fail_1 : decode cX4_fail 1 = .ok (.iload_n 1, 1) := by decide +kernel
theorem dX4_fail_2 : decode cX4_fail 2 = .ok (.putfield 43, 3) := by decide +kernel
theorem dX4_fail_5 : decode cX4_fail 5 = .ok (.iconst 0, 1) := by decide +kernel
theorem dX4_fail_6 : decode cX4_fail 6 = .ok (.ireturn, 1) := by decide +kernel
theorem dX4_isIntegerIn_0 : decode cX4_isIntegerIn 0 = .ok (.aload_n 0, 1) := by decide +kernel
theorem dX4_isIntegerIn_1 : decode cX4_isIntegerIn 1 = .ok (.getfield 36, 3) := by decide +kernel
theorem dX4_isIntegerIn_4 : decode cX4_isIntegerIn 4 = .ok (.iconst 2, 1) := by decide +kernel
theorem dX4_isIntegerIn_5 : decode cX4_isIntegerIn 5 = .ok (.if_icmp .eq 10, 3) := by decide +kernel
theorem dX4_isIntegerIn_8 : decode cX4_isIntegerIn 8 = .ok (.aload_n 0, 1) := by decide +kernel
theorem dX4_isIntegerIn_9 : decode cX4_isIntegerIn 9 = .ok (.bipush (-11), 2) := by decide +kernel
theorem dX4_isIntegerIn_11 : decode cX4_isIntegerIn 11 = .ok (.invokevirtual 81, 3) := by decide +kernel
theorem dX4_isIntegerIn_14 : decode cX4_isIntegerIn 14 = .ok (.ireturn, 1) := by decide +kernel
theorem dX4_isIntegerIn_15 : decode cX4_isIntegerIn 15 = .ok (.aload_n 0, 1) := by decide +kernel
theorem dX4_isIntegerIn_16 : decode cX4_isIntegerIn 16 = .ok (.getfield 98, 3) := by decide +kernel
theorem dX4_isIntegerIn_19 : decode cX4_isIntegerIn 19 = .ok (.iload_n 1, 1) := by decide +kernel
theorem dX4_isIntegerIn_20 : decode cX4_isIntegerIn 20 = .ok (.if_icmp .lt 11, 3) := by decide +kernel
theorem dX4_isIntegerIn_23 : decode cX4_isIntegerIn 23 = .ok (.aload_n 0, 1) := by decide +kernel
theorem dX4_isIntegerIn_24 : decode cX4_isIntegerIn 24 = .ok (.getfield 98, 3) := by decide +kernel
theorem dX4_isIntegerIn_27 : decode cX4_isIntegerIn 27 = .ok (.iload_n 2, 1) := by decide +kernel
theorem dX4_isIntegerIn_28 : decode cX4_isIntegerIn 28 = .ok (.if_icmp .le 12, 3) := by decide +kernel
theorem dX4_isIntegerIn_31 : decode cX4_isIntegerIn 31 = .ok (.aload_n 0, 1) := by decide +kernel
theorem dX4_isIntegerIn_32 : decode cX4_isIntegerIn 32 = .ok (.bipush (-12), 2) := by decide +kernel
theorem dX4_isIntegerIn_34 : decode cX4_isIntegerIn 34 = .ok (.invokevirtual 81, 3) := by decide +kernel
theorem dX4_isIntegerIn_37 : decode cX4_isIntegerIn 37 = .ok (.ifCond .eq 7, 3) := by decide +kernel
theorem dX4_isIntegerIn_40 : decode cX4_isIntegerIn 40 = .ok (.iconst 1, 1) := by decide +kernel
theorem dX4_isIntegerIn_41 : decode cX4_isIntegerIn 41 = .ok (.goto 4, 3) := by decide +kernel
theorem dX4_isIntegerIn_44 : decode cX4_isIntegerIn 44 = .ok (.iconst 0, 1) := by decide +kernel
theorem dX4_isIntegerIn_45 : decode cX4_isIntegerIn 45 = .ok (.ireturn, 1) := by decide +kernel
theorem dX4_readSetting_0 : decode cX4_readSetting 0 = .ok (.aload_n 0, 1) := by decide +kernel
theorem dX4_readSetting_1 : decode cX4_readSetting 1 = .ok (.invokevirtual 33, 3) := by decide +kernel
theorem dX4_readSetting_4 : decode cX4_readSetting 4 = .ok (.iconst (-1), 1) := by decide +kernel
theorem dX4_readSetting_5 : decode cX4_readSetting 5 = .ok (.istore_n 2, 1) := by decide +kernel
theorem dX4_readSetting_6 : decode cX4_readSetting 6 = .ok (.aload_n 0, 1) := by decide +kernel
theorem dX4_readSetting_7 : decode cX4_readSetting 7 = .ok (.getstatic 178, 3) := by decide +kernel
theorem dX4_readSetting_10 : decode cX4_readSetting 10 = .ok (.invokevirtual 50, 3) := by decide +kernel
theorem dX4_readSetting_13 : decode cX4_readSetting 13 = .ok (.ifCond .eq 8, 3) := by decide +kernel
theorem dX4_readSetting_16 : decode cX4_readSetting 16 = .ok (.iconst 0, 1) := by decide +kernel
theorem dX4_readSetting_17 : decode cX4_readSetting 17 = .ok (.istore_n 2, 1) := by decide +kernel
theorem dX4_readSetting_18 : decode cX4_readSetting 18 = .ok (.goto 30, 3) := by decide +kernel
theorem dX4_readSetting_21 : decode cX4_readSetting 21 = .ok (.aload_n 0, 1) := by decide +kernel
theorem dX4_readSetting_22 : decode cX4_readSetting 22 = .ok (.getstatic 181, 3) := by decide +kernel
theorem dX4_readSetting_25 : decode cX4_readSetting 25 = .ok (.invokevirtual 50, 3) := by decide +kernel
theorem dX4_readSetting_28 : decode cX4_readSetting 28 = .ok (.ifCond .eq 8, 3) := by decide +kernel
theorem dX4_readSetting_31 : decode cX4_readSetting 31 = .ok (.iconst 1, 1) := by decide +kernel
theorem dX4_readSetting_32 : decode cX4_readSetting 32 = .ok (.istore_n 2, 1) := by decide +kernel
theorem dX4_readSetting_33 : decode cX4_readSetting 33 = .ok (.goto 15, 3) := by decide +kernel
theorem dX4_readSetting_36 : decode cX4_readSetting 36 = .ok (.aload_n 0, 1) := by decide +kernel
theorem dX4_readSetting_37 : decode cX4_readSetting 37 = .ok (.getstatic 184, 3) := by decide +kernel
theorem dX4_readSetting_40 : decode cX4_readSetting 40 = .ok (.invokevirtual 50, 3) := by decide +kernel
theorem dX4_readSetting_43 : decode cX4_readSetting 43 = .ok (.ifCond .eq 5, 3) := by decide +kernel
theorem dX4_readSetting_46 : decode cX4_readSetting 46 = .ok (.iconst 2, 1) := by decide +kernel
theorem dX4_readSetting_47 : decode cX4_readSetting 47 = .ok (.istore_n 2, 1) := by decide +kernel
theorem dX4_readSetting_48 : decode cX4_readSetting 48 = .ok (.iload_n 2, 1) := by decide +kernel
theorem dX4_readSetting_49 : decode cX4_readSetting 49 = .ok (.iconst (-1), 1) := by decide +kernel
theorem dX4_readSetting_50 : decode cX4_readSetting 50 = .ok (.if_icmp .ne 10, 3) := by decide +kernel
theorem dX4_readSetting_53 : decode cX4_readSetting 53 = .ok (.aload_n 0, 1) := by decide +kernel
theorem dX4_readSetting_54 : decode cX4_readSetting 54 = .ok (.bipush (-11), 2) := by decide +kernel
theorem dX4_readSetting_56 : decode cX4_readSetting 56 = .ok (.invokevirtual 81, 3) := by decide +kernel
theorem dX4_readSetting_59 : decode cX4_readSetting 59 = .ok (.ireturn, 1) := by decide +kernel
theorem dX4_readSetting_60 : decode cX4_readSetting 60 = .ok (.aload_n 0, 1) := by decide +kernel
theorem dX4_readSetting_61 : decode cX4_readSetting 61 = .ok (.getfield 25, 3) := by decide +kernel
theorem dX4_readSetting_64 : decode cX4_readSetting 64 = .ok (.iload_n 2, 1) := by decide +kernel
theorem dX4_readSetting_65 : decode cX4_readSetting 65 = .ok (.ishr, 1) := by decide +kernel
theorem dX4_readSetting_66 : decode cX4_readSetting 66 = .ok (.iconst 1, 1) := by decide +kernel
theorem dX4_readSetting_67 : decode cX4_readSetting 67 = .ok (.iand, 1) := by decide +kernel
theorem dX4_readSetting_68 : decode cX4_readSetting 68 = .ok (.iconst 1, 1) := by decide +kernel
theorem dX4_readSetting_69 : decode cX4_readSetting 69 = .ok (.if_icmp .ne 10, 3) := by decide +kernel
theorem dX4_readSetting_72 : decode cX4_readSetting 72 = .ok (.aload_n 0, 1) := by decide +kernel
theorem dX4_readSetting_73 : decode cX4_readSetting 73 = .ok (.bipush (-14), 2) := by decide +kernel
theorem dX4_readSetting_75 : decode cX4_readSetting 75 = .ok (.invokevirtual 81, 3) := by decide +kernel
theorem dX4_readSetting_78 : decode cX4_readSetting 78 = .ok (.ireturn, 1) := by decide +kernel
theorem dX4_readSetting_79 : decode cX4_readSetting 79 = .ok (.aload_n 0, 1) := by decide +kernel
theorem dX4_readSetting_80 : decode cX4_readSetting 80 = .ok (.dup, 1) := by decide +kernel
theorem dX4_readSetting_81 : decode cX4_readSetting 81 = .ok (.getfield 25, 3) := by decide +kernel
theorem dX4_readSetting_84 : decode cX4_readSetting 84 = .ok (.iconst 1, 1) := by decide +kernel
theorem dX4_readSetting_85 : decode cX4_readSetting 85 = .ok (.iload_n 2, 1) := by decide +kernel
theorem dX4_readSetting_86 : decode cX4_readSetting 86 = .ok (.ishl, 1) := by decide +kernel
theorem dX4_readSetting_87 : decode cX4_readSetting 87 = .ok (.ior, 1) := by decide +kernel
theorem dX4_readSetting_88 : decode cX4_readSetting 88 = .ok (.putfield 25, 3) := by decide +kernel
theorem dX4_readSetting_91 : decode cX4_readSetting 91 = .ok (.aload_n 0, 1) := by decide +kernel
theorem dX4_readSetting_92 : decode cX4_readSetting 92 = .ok (.invokevirtual 33, 3) := by decide +kernel
theorem dX4_readSetting_95 : decode cX4_readSetting 95 = .ok (.aload_n 0, 1) := by decide +kernel
theorem dX4_readSetting_96 : decode cX4_readSetting 96 = .ok (.getstatic 187, 3) := by decide +kernel
theorem dX4_readSetting_99 : decode cX4_readSetting 99 = .ok (.iload_n 2, 1) := by decide +kernel
theorem dX4_readSetting_100 : decode cX4_readSetting 100 = .ok (.iaload, 1) := by decide +kernel
theorem dX4_readSetting_101 : decode cX4_readSetting 101 = .ok (.getstatic 190, 3) := by decide +kernel
theorem dX4_readSetting_104 : decode cX4_readSetting 104 = .ok (.iload_n 2, 1) := by decide +kernel
theorem dX4_readSetting_105 : decode cX4_readSetting 105 = .ok (.iaload, 1) := by decide +kernel
theorem dX4_readSetting_106 : decode cX4_readSetting 106 = .ok (.invokevirtual 94, 3) := by decide +kernel
theorem dX4_readSetting_109 : decode cX4_readSetting 109 = .ok (.ifCond .ne 5, 3) := by decide +kernel
theorem dX4_readSetting_112 : decode cX4_readSetting 112 = .ok (.iconst 0, 1) := by decide +kernel
theorem dX4_readSetting_113 : decode cX4_readSetting 113 = .ok (.ireturn, 1) := by decide +kernel
theorem dX4_readSetting_114 : decode cX4_readSetting 114 = .ok (.aload_n 1, 1) := by decide +kernel
theorem dX4_readSetting_115 : decode cX4_readSetting 115 = .ok (.getfield 193, 3) := by decide +kernel
theorem dX4_readSetting_118 : decode cX4_readSetting 118 = .ok (.iload_n 2, 1) := by decide +kernel
theorem dX4_readSetting_119 : decode cX4_readSetting 119 = .ok (.aload_n 0, 1) := by decide +kernel
theorem dX4_readSetting_120 : decode cX4_readSetting 120 = .ok (.getfield 98, 3) := by decide +kernel
theorem dX4_readSetting_123 : decode cX4_readSetting 123 = .ok (.iastore, 1) := by decide +kernel
theorem dX4_readSetting_124 : decode cX4_readSetting 124 = .ok (.aload_n 0, 1) := by decide +kernel
theorem dX4_readSetting_125 : decode cX4_readSetting 125 = .ok (.invokevirtual 33, 3) := by decide +kernel
theorem dX4_readSetting_128 : decode cX4_readSetting 128 = .ok (.iconst 1, 1) := by decide +kernel
theorem dX4_readSetting_129 : decode cX4_readSetting 129 = .ok (.ireturn, 1) := by decide +kernel
theorem dX4_isName_0 : decode cX4_isName 0 = .ok (.aload_n 0, 1) := by decide +kernel
theorem dX4_isName_1 : decode cX4_isName 1 = .ok (.getfield 36, 3) := by decide +kernel
theorem dX4_isName_4 : decode cX4_isName 4 = .ok (.iconst 1, 1) := by decide +kernel
theorem dX4_isName_5 : decode cX4_isName 5 = .ok (.if_icmp .ne 91, 3) := by decide +kernel
theorem dX4_isName_8 : decode cX4_isName 8 = .ok (.aload_n 0, 1) := by decide +kernel
theorem dX4_isName_9 : decode cX4_isName 9 = .ok (.getfield 22, 3) := by decide +kernel
theorem dX4_isName_12 : decode cX4_isName 12 = .ok (.aload_n 0, 1) := by decide +kernel
theorem dX4_isName_13 : decode cX4_isName 13 = .ok (.getfield 200, 3) := by decide +kernel
theorem dX4_isName_16 : decode cX4_isName 16 = .ok (.isub, 1) := by decide +kernel
theorem dX4_isName_17 : decode cX4_isName 17 = .ok (.bipush 6, 2) := by decide +kernel
theorem dX4_isName_19 : decode cX4_isName 19 = .ok (.if_icmp .gt 77, 3) := by decide +kernel
theorem dX4_isName_22 : decode cX4_isName 22 = .ok (.aload_n 0, 1) := by decide +kernel
theorem dX4_isName_23 : decode cX4_isName 23 = .ok (.getstatic 46, 3) := by decide +kernel
theorem dX4_isName_26 : decode cX4_isName 26 = .ok (.invokevirtual 50, 3) := by decide +kernel
theorem dX4_isName_29 : decode cX4_isName 29 = .ok (.ifCond .ne 67, 3) := by decide +kernel
theorem dX4_isName_32 : decode cX4_isName 32 = .ok (.aload_n 0, 1) := by decide +kernel
theorem dX4_isName_33 : decode cX4_isName 33 = .ok (.getstatic 101, 3) := by decide +kernel
theorem dX4_isName_36 : decode cX4_isName 36 = .ok (.invokevirtual 50, 3) := by decide +kernel
theorem dX4_isName_39 : decode cX4_isName 39 = .ok (.ifCond .ne 57, 3) := by decide +kernel
theorem dX4_isName_42 : decode cX4_isName 42 = .ok (.aload_n 0, 1) := by decide +kernel
theorem dX4_isName_43 : decode cX4_isName 43 = .ok (.getstatic 57, 3) := by decide +kernel
theorem dX4_isName_46 : decode cX4_isName 46 = .ok (.invokevirtual 50, 3) := by decide +kernel
theorem dX4_isName_49 : decode cX4_isName 49 = .ok (.ifCond .ne 47, 3) := by decide +kernel
theorem dX4_isName_52 : decode cX4_isName 52 = .ok (.aload_n 0, 1) := by decide +kernel
theorem dX4_isName_53 : decode cX4_isName 53 = .ok (.getstatic 63, 3) := by decide +kernel
theorem dX4_isName_56 : decode cX4_isName 56 = .ok (.invokevirtual 50, 3) := by decide +kernel
theorem dX4_isName_59 : decode cX4_isName 59 = .ok (.ifCond .ne 37, 3) := by decide +kernel
theorem dX4_isName_62 : decode cX4_isName 62 = .ok (.aload_n 0, 1) := by decide +kernel
theorem dX4_isName_63 : decode cX4_isName 63 = .ok (.getstatic 69, 3) := by decide +kernel
theorem dX4_isName_66 : decode cX4_isName 66 = .ok (.invokevirtual 50, 3) := by decide +kernel
theorem dX4_isName_69 : decode cX4_isName 69 = .ok (.ifCond .ne 27, 3) := by decide +kernel
theorem dX4_isName_72 : decode cX4_isName 72 = .ok (.aload_n 0, 1) := by decide +kernel
theorem dX4_isName_73 : decode cX4_isName 73 = .ok (.getstatic 75, 3) := by decide +kernel
theorem dX4_isName_76 : decode cX4_isName 76 = .ok (.invokevirtual 50, 3) := by decide +kernel
theorem dX4_isName_79 : decode cX4_isName 79 = .ok (.ifCond .ne 17, 3) := by decide +kernel
theorem dX4_isName_82 : decode cX4_isName 82 = .ok (.aload_n 0, 1) := by decide +kernel
theorem dX4_isName_83 : decode cX4_isName 83 = .ok (.getstatic 181, 3) := by decide +kernel
theorem dX4_isName_86 : decode cX4_isName 86 = .ok (.invokevirtual 50, 3) := by decide +kernel
theorem dX4_isName_89 : decode cX4_isName 89 = .ok (.ifCond .ne 7, 3) := by decide +kernel
theorem dX4_isName_92 : decode cX4_isName 92 = .ok (.iconst 1, 1) := by decide +kernel
theorem dX4_isName_93 : decode cX4_isName 93 = .ok (.goto 4, 3) := by decide +kernel
theorem dX4_isName_96 : decode cX4_isName 96 = .ok (.iconst 0, 1) := by decide +kernel
theorem dX4_isName_97 : decode cX4_isName 97 = .ok (.ireturn, 1) := by decide +kernel
theorem dX4_isKnownLevel_0 : decode cX4_isKnownLevel 0 = .ok (.aload_n 0, 1) := by decide +kernel
theorem dX4_isKnownLevel_1 : decode cX4_isKnownLevel 1 = .ok (.invokevirtual 196, 3) := by decide +kernel
theorem dX4_isKnownLevel_4 : decode cX4_isKnownLevel 4 = .ok (.ifCond .ne 10, 3) := by decide +kernel
theorem dX4_isKnownLevel_7 : decode cX4_isKnownLevel 7 = .ok (.aload_n 0, 1) := by decide +kernel
theorem dX4_isKnownLevel_8 : decode cX4_isKnownLevel 8 = .ok (.bipush (-11), 2) := by decide +kernel
theorem dX4_isKnownLevel_10 : decode cX4_isKnownLevel 10 = .ok (.invokevirtual 81, 3) := by decide +kernel
theorem dX4_isKnownLevel_13 : decode cX4_isKnownLevel 13 = .ok (.ireturn, 1) := by decide +kernel
theorem dX4_isKnownLevel_14 : decode cX4_isKnownLevel 14 = .ok (.aload_n 1, 1) := by decide +kernel
theorem dX4_isKnownLevel_15 : decode cX4_isKnownLevel 15 = .ok (.aload_n 0, 1) := by decide +kernel
theorem dX4_isKnownLevel_16 : decode cX4_isKnownLevel 16 = .ok (.getfield 91, 3) := by decide +kernel
theorem dX4_isKnownLevel_19 : decode cX4_isKnownLevel 19 = .ok (.invokevirtual 143, 3) := by decide +kernel
theorem dX4_isKnownLevel_22 : decode cX4_isKnownLevel 22 = .ok (.iconst (-1), 1) := by decide +kernel
theorem dX4_isKnownLevel_23 : decode cX4_isKnownLevel 23 = .ok (.if_icmp .ne 12, 3) := by decide +kernel
theorem dX4_isKnownLevel_26 : decode cX4_isKnownLevel 26 = .ok (.aload_n 0, 1) := by decide +kernel
theorem dX4_isKnownLevel_27 : decode cX4_isKnownLevel 27 = .ok (.bipush (-13), 2) := by decide +kernel
theorem dX4_isKnownLevel_29 : decode cX4_isKnownLevel 29 = .ok (.invokevirtual 81, 3) := by decide +kernel
theorem dX4_isKnownLevel_32 : decode cX4_isKnownLevel 32 = .ok (.ifCond .eq 7, 3) := by decide +kernel
theorem dX4_isKnownLevel_35 : decode cX4_isKnownLevel 35 = .ok (.iconst 1, 1) := by decide +kernel
theorem dX4_isKnownLevel_36 : decode cX4_isKnownLevel 36 = .ok (.goto 4, 3) := by decide +kernel
theorem dX4_isKnownLevel_39 : decode cX4_isKnownLevel 39 = .ok (.iconst 0, 1) := by decide +kernel
theorem dX4_isKnownLevel_40 : decode cX4_isKnownLevel 40 = .ok (.ireturn, 1) := by decide +kernel
theorem dX4_readFour_0 : decode cX4_readFour 0 = .ok (.iconst 0, 1) := by decide +kernel
theorem dX4_readFour_1 : decode cX4_readFour 1 = .ok (.istore_n 3, 1) := by decide +kernel
theorem dX4_readFour_2 : decode cX4_readFour 2 = .ok (.iload_n 3, 1) := by decide +kernel
theorem dX4_readFour_3 : decode cX4_readFour 3 = .ok (.iconst 4, 1) := by decide +kernel
theorem dX4_readFour_4 : decode cX4_readFour 4 = .ok (.if_icmp .ge 41, 3) := by decide +kernel
theorem dX4_readFour_7 : decode cX4_readFour 7 = .ok (.aload_n 0, 1) := by decide +kernel
theorem dX4_readFour_8 : decode cX4_readFour 8 = .ok (.getstatic 163, 3) := by decide +kernel
theorem dX4_readFour_11 : decode cX4_readFour 11 = .ok (.iload_n 3, 1) := by decide +kernel
theorem dX4_readFour_12 : decode cX4_readFour 12 = .ok (.iaload, 1) := by decide +kernel
theorem dX4_readFour_13 : decode cX4_readFour 13 = .ok (.getstatic 166, 3) := by decide +kernel
theorem dX4_readFour_16 : decode cX4_readFour 16 = .ok (.iload_n 3, 1) := by decide +kernel
theorem dX4_readFour_17 : decode cX4_readFour 17 = .ok (.iaload, 1) := by decide +kernel
theorem dX4_readFour_18 : decode cX4_readFour 18 = .ok (.invokevirtual 94, 3) := by decide +kernel
theorem dX4_readFour_21 : decode cX4_readFour 21 = .ok (.ifCond .ne 5, 3) := by decide +kernel
theorem dX4_readFour_24 : decode cX4_readFour 24 = .ok (.iconst 0, 1) := by decide +kernel
theorem dX4_readFour_25 : decode cX4_readFour 25 = .ok (.ireturn, 1) := by decide +kernel
theorem dX4_readFour_26 : decode cX4_readFour 26 = .ok (.aload_n 1, 1) := by decide +kernel
theorem dX4_readFour_27 : decode cX4_readFour 27 = .ok (.iload_n 2, 1) := by decide +kernel
theorem dX4_readFour_28 : decode cX4_readFour 28 = .ok (.iload_n 3, 1) := by decide +kernel
theorem dX4_readFour_29 : decode cX4_readFour 29 = .ok (.iadd, 1) := by decide +kernel
theorem dX4_readFour_30 : decode cX4_readFour 30 = .ok (.aload_n 0, 1) := by decide +kernel
theorem dX4_readFour_31 : decode cX4_readFour 31 = .ok (.getfield 98, 3) := by decide +kernel
theorem dX4_readFour_34 : decode cX4_readFour 34 = .ok (.iastore, 1) := by decide +kernel
theorem dX4_readFour_35 : decode cX4_readFour 35 = .ok (.aload_n 0, 1) := by decide +kernel
theorem dX4_readFour_36 : decode cX4_readFour 36 = .ok (.invokevirtual 33, 3) := by decide +kernel
theorem dX4_readFour_39 : decode cX4_readFour 39 = .ok (.iinc 3 1, 3) := by decide +kernel
theorem dX4_readFour_42 : decode cX4_readFour 42 = .ok (.goto (-40), 3) := by decide +kernel
theorem dX4_readFour_45 : decode cX4_readFour 45 = .ok (.iconst 1, 1) := by decide +kernel
theorem dX4_readFour_46 : decode cX4_readFour 46 = .ok (.ireturn, 1) := by decide +kernel
theorem dX4_readTest_0 : decode cX4_readTest 0 = .ok (.aload_n 1, 1) := by decide +kernel
theorem dX4_readTest_1 : decode cX4_readTest 1 = .ok (.getfield 169, 3) := by decide +kernel
theorem dX4_readTest_4 : decode cX4_readTest 4 = .ok (.istore_n 2, 1) := by decide +kernel
theorem dX4_readTest_5 : decode cX4_readTest 5 = .ok (.iload_n 2, 1) := by decide +kernel
theorem dX4_readTest_6 : decode cX4_readTest 6 = .ok (.bipush 6, 2) := by decide +kernel
theorem dX4_readTest_8 : decode cX4_readTest 8 = .ok (.if_icmp .lt 10, 3) := by decide +kernel
theorem dX4_readTest_11 : decode cX4_readTest 11 = .ok (.aload_n 0, 1) := by decide +kernel
theorem dX4_readTest_12 : decode cX4_readTest 12 = .ok (.bipush (-15), 2) := by decide +kernel
theorem dX4_readTest_14 : decode cX4_readTest 14 = .ok (.invokevirtual 81, 3) := by decide +kernel
theorem dX4_readTest_17 : decode cX4_readTest 17 = .ok (.ireturn, 1) := by decide +kernel
theorem dX4_readTest_18 : decode cX4_readTest 18 = .ok (.aload_n 0, 1) := by decide +kernel
theorem dX4_readTest_19 : decode cX4_readTest 19 = .ok (.invokevirtual 33, 3) := by decide +kernel
theorem dX4_readTest_22 : decode cX4_readTest 22 = .ok (.aload_n 0, 1) := by decide +kernel
theorem dX4_readTest_23 : decode cX4_readTest 23 = .ok (.aload_n 1, 1) := by decide +kernel
theorem dX4_readTest_24 : decode cX4_readTest 24 = .ok (.invokevirtual 137, 3) := by decide +kernel
theorem dX4_readTest_27 : decode cX4_readTest 27 = .ok (.ifCond .ne 5, 3) := by decide +kernel
theorem dX4_readTest_30 : decode cX4_readTest 30 = .ok (.iconst 0, 1) := by decide +kernel
theorem dX4_readTest_31 : decode cX4_readTest 31 = .ok (.ireturn, 1) := by decide +kernel
theorem dX4_readTest_32 : decode cX4_readTest 32 = .ok (.aload_n 1, 1) := by decide +kernel
theorem dX4_readTest_33 : decode cX4_readTest 33 = .ok (.getfield 172, 3) := by decide +kernel
theorem dX4_readTest_36 : decode cX4_readTest 36 = .ok (.iload_n 2, 1) := by decide +kernel
theorem dX4_readTest_37 : decode cX4_readTest 37 = .ok (.aload_n 1, 1) := by decide +kernel
theorem dX4_readTest_38 : decode cX4_readTest 38 = .ok (.aload_n 0, 1) := by decide +kernel
theorem dX4_readTest_39 : decode cX4_readTest 39 = .ok (.getfield 91, 3) := by decide +kernel
theorem dX4_readTest_42 : decode cX4_readTest 42 = .ok (.invokevirtual 143, 3) := by decide +kernel
theorem dX4_readTest_45 : decode cX4_readTest 45 = .ok (.iastore, 1) := by decide +kernel
theorem dX4_readTest_46 : decode cX4_readTest 46 = .ok (.aload_n 0, 1) := by decide +kernel
theorem dX4_readTest_47 : decode cX4_readTest 47 = .ok (.invokevirtual 33, 3) := by decide +kernel
theorem dX4_readTest_50 : decode cX4_readTest 50 = .ok (.iload_n 2, 1) := by decide +kernel
theorem dX4_readTest_51 : decode cX4_readTest 51 = .ok (.iconst 2, 1) := by decide +kernel
theorem dX4_readTest_52 : decode cX4_readTest 52 = .ok (.imul, 1) := by decide +kernel
theorem dX4_readTest_53 : decode cX4_readTest 53 = .ok (.iconst 4, 1) := by decide +kernel
theorem dX4_readTest_54 : decode cX4_readTest 54 = .ok (.imul, 1) := by decide +kernel
theorem dX4_readTest_55 : decode cX4_readTest 55 = .ok (.istore_n 3, 1) := by decide +kernel
theorem dX4_readTest_56 : decode cX4_readTest 56 = .ok (.aload_n 0, 1) := by decide +kernel
theorem dX4_readTest_57 : decode cX4_readTest 57 = .ok (.aload_n 1, 1) := by decide +kernel
theorem dX4_readTest_58 : decode cX4_readTest 58 = .ok (.getfield 175, 3) := by decide +kernel
theorem dX4_readTest_61 : decode cX4_readTest 61 = .ok (.iload_n 3, 1) := by decide +kernel
theorem dX4_readTest_62 : decode cX4_readTest 62 = .ok (.invokevirtual 156, 3) := by decide +kernel
theorem dX4_readTest_65 : decode cX4_readTest 65 = .ok (.ifCond .eq 17, 3) := by decide +kernel
theorem dX4_readTest_68 : decode cX4_readTest 68 = .ok (.aload_n 0, 1) := by decide +kernel
theorem dX4_readTest_69 : decode cX4_readTest 69 = .ok (.aload_n 1, 1) := by decide +kernel
theorem dX4_readTest_70 : decode cX4_readTest 70 = .ok (.getfield 175, 3) := by decide +kernel
theorem dX4_readTest_73 : decode cX4_readTest 73 = .ok (.iload_n 3, 1) := by decide +kernel
theorem dX4_readTest_74 : decode cX4_readTest 74 = .ok (.iconst 4, 1) := by decide +kernel
theorem dX4_readTest_75 : decode cX4_readTest 75 = .ok (.iadd, 1) := by decide +kernel
theorem dX4_readTest_76 : decode cX4_readTest 76 = .ok (.invokevirtual 156, 3) := by decide +kernel
theorem dX4_readTest_79 : decode cX4_readTest 79 = .ok (.ifCond .ne 5, 3) := by decide +kernel
theorem dX4_readTest_82 : decode cX4_readTest 82 = .ok (.iconst 0, 1) := by decide +kernel
theorem dX4_readTest_83 : decode cX4_readTest 83 = .ok (.ireturn, 1) := by decide +kernel
theorem dX4_readTest_84 : decode cX4_readTest 84 = .ok (.aload_n 1, 1) := by decide +kernel
theorem dX4_readTest_85 : decode cX4_readTest 85 = .ok (.dup, 1) := by decide +kernel
theorem dX4_readTest_86 : decode cX4_readTest 86 = .ok (.getfield 169, 3) := by decide +kernel
theorem dX4_readTest_89 : decode cX4_readTest 89 = .ok (.iconst 1, 1) := by decide +kernel
theorem dX4_readTest_90 : decode cX4_readTest 90 = .ok (.iadd, 1) := by decide +kernel
theorem dX4_readTest_91 : decode cX4_readTest 91 = .ok (.putfield 169, 3) := by decide +kernel
theorem dX4_readTest_94 : decode cX4_readTest 94 = .ok (.iconst 1, 1) := by decide +kernel
theorem dX4_readTest_95 : decode cX4_readTest 95 = .ok (.ireturn, 1) := by decide +kernel
theorem dX4_isKnownPoint_0 : decode cX4_isKnownPoint 0 = .ok (.aload_n 0, 1) := by decide +kernel
theorem dX4_isKnownPoint_1 : decode cX4_isKnownPoint 1 = .ok (.invokevirtual 196, 3) := by decide +kernel
theorem dX4_isKnownPoint_4 : decode cX4_isKnownPoint 4 = .ok (.ifCond .ne 10, 3) := by decide +kernel
theorem dX4_isKnownPoint_7 : decode cX4_isKnownPoint 7 = .ok (.aload_n 0, 1) := by decide +kernel
theorem dX4_isKnownPoint_8 : decode cX4_isKnownPoint 8 = .ok (.bipush (-11), 2) := by decide +kernel
theorem dX4_isKnownPoint_10 : decode cX4_isKnownPoint 10 = .ok (.invokevirtual 81, 3) := by decide +kernel
theorem dX4_isKnownPoint_13 : decode cX4_isKnownPoint 13 = .ok (.ireturn, 1) := by decide +kernel
theorem dX4_isKnownPoint_14 : decode cX4_isKnownPoint 14 = .ok (.aload_n 1, 1) := by decide +kernel
theorem dX4_isKnownPoint_15 : decode cX4_isKnownPoint 15 = .ok (.aload_n 0, 1) := by decide +kernel
theorem dX4_isKnownPoint_16 : decode cX4_isKnownPoint 16 = .ok (.getfield 91, 3) := by decide +kernel
theorem dX4_isKnownPoint_19 : decode cX4_isKnownPoint 19 = .ok (.invokevirtual 130, 3) := by decide +kernel
theorem dX4_isKnownPoint_22 : decode cX4_isKnownPoint 22 = .ok (.iconst (-1), 1) := by decide +kernel
theorem dX4_isKnownPoint_23 : decode cX4_isKnownPoint 23 = .ok (.if_icmp .ne 12, 3) := by decide +kernel
theorem dX4_isKnownPoint_26 : decode cX4_isKnownPoint 26 = .ok (.aload_n 0, 1) := by decide +kernel
theorem dX4_isKnownPoint_27 : decode cX4_isKnownPoint 27 = .ok (.bipush (-13), 2) := by decide +kernel
theorem dX4_isKnownPoint_29 : decode cX4_isKnownPoint 29 = .ok (.invokevirtual 81, 3) := by decide +kernel
theorem dX4_isKnownPoint_32 : decode cX4_isKnownPoint 32 = .ok (.ifCond .eq 7, 3) := by decide +kernel
theorem dX4_isKnownPoint_35 : decode cX4_isKnownPoint 35 = .ok (.iconst 1, 1) := by decide +kernel
theorem dX4_isKnownPoint_36 : decode cX4_isKnownPoint 36 = .ok (.goto 4, 3) := by decide +kernel
theorem dX4_isKnownPoint_39 : decode cX4_isKnownPoint 39 = .ok (.iconst 0, 1) := by decide +kernel
theorem dX4_isKnownPoint_40 : decode cX4_isKnownPoint 40 = .ok (.ireturn, 1) := by decide +kernel
theorem dX4_readLine_0 : decode cX4_readLine 0 = .ok (.aload_n 1, 1) := by decide +kernel
theorem dX4_readLine_1 : decode cX4_readLine 1 = .ok (.getfield 121, 3) := by decide +kernel
theorem dX4_readLine_4 : decode cX4_readLine 4 = .ok (.istore_n 2, 1) := by decide +kernel
theorem dX4_readLine_5 : decode cX4_readLine 5 = .ok (.iload_n 2, 1) := by decide +kernel
theorem dX4_readLine_6 : decode cX4_readLine 6 = .ok (.bipush 20, 2) := by decide +kernel
theorem dX4_readLine_8 : decode cX4_readLine 8 = .ok (.if_icmp .lt 10, 3) := by decide +kernel
theorem dX4_readLine_11 : decode cX4_readLine 11 = .ok (.aload_n 0, 1) := by decide +kernel
theorem dX4_readLine_12 : decode cX4_readLine 12 = .ok (.bipush (-15), 2) := by decide +kernel
theorem dX4_readLine_14 : decode cX4_readLine 14 = .ok (.invokevirtual 81, 3) := by decide +kernel
theorem dX4_readLine_17 : decode cX4_readLine 17 = .ok (.ireturn, 1) := by decide +kernel
theorem dX4_readLine_18 : decode cX4_readLine 18 = .ok (.aload_n 0, 1) := by decide +kernel
theorem dX4_readLine_19 : decode cX4_readLine 19 = .ok (.invokevirtual 33, 3) := by decide +kernel
theorem dX4_readLine_22 : decode cX4_readLine 22 = .ok (.aload_n 0, 1) := by decide +kernel
theorem dX4_readLine_23 : decode cX4_readLine 23 = .ok (.aload_n 1, 1) := by decide +kernel
theorem dX4_readLine_24 : decode cX4_readLine 24 = .ok (.invokevirtual 124, 3) := by decide +kernel
theorem dX4_readLine_27 : decode cX4_readLine 27 = .ok (.ifCond .ne 5, 3) := by decide +kernel
theorem dX4_readLine_30 : decode cX4_readLine 30 = .ok (.iconst 0, 1) := by decide +kernel
theorem dX4_readLine_31 : decode cX4_readLine 31 = .ok (.ireturn, 1) := by decide +kernel
theorem dX4_readLine_32 : decode cX4_readLine 32 = .ok (.aload_n 1, 1) := by decide +kernel
theorem dX4_readLine_33 : decode cX4_readLine 33 = .ok (.getfield 127, 3) := by decide +kernel
theorem dX4_readLine_36 : decode cX4_readLine 36 = .ok (.iload_n 2, 1) := by decide +kernel
theorem dX4_readLine_37 : decode cX4_readLine 37 = .ok (.aload_n 1, 1) := by decide +kernel
theorem dX4_readLine_38 : decode cX4_readLine 38 = .ok (.aload_n 0, 1) := by decide +kernel
theorem dX4_readLine_39 : decode cX4_readLine 39 = .ok (.getfield 91, 3) := by decide +kernel
theorem dX4_readLine_42 : decode cX4_readLine 42 = .ok (.invokevirtual 130, 3) := by decide +kernel
theorem dX4_readLine_45 : decode cX4_readLine 45 = .ok (.iastore, 1) := by decide +kernel
theorem dX4_readLine_46 : decode cX4_readLine 46 = .ok (.aload_n 0, 1) := by decide +kernel
theorem dX4_readLine_47 : decode cX4_readLine 47 = .ok (.invokevirtual 33, 3) := by decide +kernel
theorem dX4_readLine_50 : decode cX4_readLine 50 = .ok (.aload_n 0, 1) := by decide +kernel
theorem dX4_readLine_51 : decode cX4_readLine 51 = .ok (.aload_n 1, 1) := by decide +kernel
theorem dX4_readLine_52 : decode cX4_readLine 52 = .ok (.invokevirtual 124, 3) := by decide +kernel
theorem dX4_readLine_55 : decode cX4_readLine 55 = .ok (.ifCond .ne 5, 3) := by decide +kernel
theorem dX4_readLine_58 : decode cX4_readLine 58 = .ok (.iconst 0, 1) := by decide +kernel
theorem dX4_readLine_59 : decode cX4_readLine 59 = .ok (.ireturn, 1) := by decide +kernel
theorem dX4_readLine_60 : decode cX4_readLine 60 = .ok (.aload_n 1, 1) := by decide +kernel
theorem dX4_readLine_61 : decode cX4_readLine 61 = .ok (.getfield 134, 3) := by decide +kernel
theorem dX4_readLine_64 : decode cX4_readLine 64 = .ok (.iload_n 2, 1) := by decide +kernel
theorem dX4_readLine_65 : decode cX4_readLine 65 = .ok (.aload_n 1, 1) := by decide +kernel
theorem dX4_readLine_66 : decode cX4_readLine 66 = .ok (.aload_n 0, 1) := by decide +kernel
theorem dX4_readLine_67 : decode cX4_readLine 67 = .ok (.getfield 91, 3) := by decide +kernel
theorem dX4_readLine_70 : decode cX4_readLine 70 = .ok (.invokevirtual 130, 3) := by decide +kernel
theorem dX4_readLine_73 : decode cX4_readLine 73 = .ok (.iastore, 1) := by decide +kernel
theorem dX4_readLine_74 : decode cX4_readLine 74 = .ok (.aload_n 1, 1) := by decide +kernel
theorem dX4_readLine_75 : decode cX4_readLine 75 = .ok (.getfield 134, 3) := by decide +kernel
theorem dX4_readLine_78 : decode cX4_readLine 78 = .ok (.iload_n 2, 1) := by decide +kernel
theorem dX4_readLine_79 : decode cX4_readLine 79 = .ok (.iaload, 1) := by decide +kernel
theorem dX4_readLine_80 : decode cX4_readLine 80 = .ok (.aload_n 1, 1) := by decide +kernel
theorem dX4_readLine_81 : decode cX4_readLine 81 = .ok (.getfield 127, 3) := by decide +kernel
theorem dX4_readLine_84 : decode cX4_readLine 84 = .ok (.iload_n 2, 1) := by decide +kernel
theorem dX4_readLine_85 : decode cX4_readLine 85 = .ok (.iaload, 1) := by decide +kernel
theorem dX4_readLine_86 : decode cX4_readLine 86 = .ok (.if_icmp .ne 10, 3) := by decide +kernel
theorem dX4_readLine_89 : decode cX4_readLine 89 = .ok (.aload_n 0, 1) := by decide +kernel
theorem dX4_readLine_90 : decode cX4_readLine 90 = .ok (.bipush (-14), 2) := by decide +kernel
theorem dX4_readLine_92 : decode cX4_readLine 92 = .ok (.invokevirtual 81, 3) := by decide +kernel
theorem dX4_readLine_95 : decode cX4_readLine 95 = .ok (.ireturn, 1) := by decide +kernel
theorem dX4_readLine_96 : decode cX4_readLine 96 = .ok (.aload_n 0, 1) := by decide +kernel
theorem dX4_readLine_97 : decode cX4_readLine 97 = .ok (.invokevirtual 33, 3) := by decide +kernel
theorem dX4_readLine_100 : decode cX4_readLine 100 = .ok (.aload_n 0, 1) := by decide +kernel
theorem dX4_readLine_101 : decode cX4_readLine 101 = .ok (.aload_n 1, 1) := by decide +kernel
theorem dX4_readLine_102 : decode cX4_readLine 102 = .ok (.invokevirtual 137, 3) := by decide +kernel
theorem dX4_readLine_105 : decode cX4_readLine 105 = .ok (.ifCond .ne 5, 3) := by decide +kernel
theorem dX4_readLine_108 : decode cX4_readLine 108 = .ok (.iconst 0, 1) := by decide +kernel
theorem dX4_readLine_109 : decode cX4_readLine 109 = .ok (.ireturn, 1) := by decide +kernel
theorem dX4_readLine_110 : decode cX4_readLine 110 = .ok (.aload_n 1, 1) := by decide +kernel
theorem dX4_readLine_111 : decode cX4_readLine 111 = .ok (.getfield 140, 3) := by decide +kernel
theorem dX4_readLine_114 : decode cX4_readLine 114 = .ok (.iload_n 2, 1) := by decide +kernel
theorem dX4_readLine_115 : decode cX4_readLine 115 = .ok (.aload_n 1, 1) := by decide +kernel
theorem dX4_readLine_116 : decode cX4_readLine 116 = .ok (.aload_n 0, 1) := by decide +kernel
theorem dX4_readLine_117 : decode cX4_readLine 117 = .ok (.getfield 91, 3) := by decide +kernel
theorem dX4_readLine_120 : decode cX4_readLine 120 = .ok (.invokevirtual 143, 3) := by decide +kernel
theorem dX4_readLine_123 : decode cX4_readLine 123 = .ok (.iastore, 1) := by decide +kernel
theorem dX4_readLine_124 : decode cX4_readLine 124 = .ok (.aload_n 0, 1) := by decide +kernel
theorem dX4_readLine_125 : decode cX4_readLine 125 = .ok (.invokevirtual 33, 3) := by decide +kernel
theorem dX4_readLine_128 : decode cX4_readLine 128 = .ok (.aload_n 1, 1) := by decide +kernel
theorem dX4_readLine_129 : decode cX4_readLine 129 = .ok (.dup, 1) := by decide +kernel
theorem dX4_readLine_130 : decode cX4_readLine 130 = .ok (.getfield 121, 3) := by decide +kernel
theorem dX4_readLine_133 : decode cX4_readLine 133 = .ok (.iconst 1, 1) := by decide +kernel
theorem dX4_readLine_134 : decode cX4_readLine 134 = .ok (.iadd, 1) := by decide +kernel
theorem dX4_readLine_135 : decode cX4_readLine 135 = .ok (.putfield 121, 3) := by decide +kernel
theorem dX4_readLine_138 : decode cX4_readLine 138 = .ok (.aload_n 1, 1) := by decide +kernel
theorem dX4_readLine_139 : decode cX4_readLine 139 = .ok (.dup, 1) := by decide +kernel
theorem dX4_readLine_140 : decode cX4_readLine 140 = .ok (.getfield 146, 3) := by decide +kernel
theorem dX4_readLine_143 : decode cX4_readLine 143 = .ok (.iconst 1, 1) := by decide +kernel
theorem dX4_readLine_144 : decode cX4_readLine 144 = .ok (.iload_n 2, 1) := by decide +kernel
theorem dX4_readLine_145 : decode cX4_readLine 145 = .ok (.ishl, 1) := by decide +kernel
theorem dX4_readLine_146 : decode cX4_readLine 146 = .ok (.ior, 1) := by decide +kernel
theorem dX4_readLine_147 : decode cX4_readLine 147 = .ok (.putfield 146, 3) := by decide +kernel
theorem dX4_readLine_150 : decode cX4_readLine 150 = .ok (.iconst 0, 1) := by decide +kernel
theorem dX4_readLine_151 : decode cX4_readLine 151 = .ok (.istore_n 3, 1) := by decide +kernel
theorem dX4_readLine_152 : decode cX4_readLine 152 = .ok (.iload_n 3, 1) := by decide +kernel
theorem dX4_readLine_153 : decode cX4_readLine 153 = .ok (.bipush 8, 2) := by decide +kernel
theorem dX4_readLine_155 : decode cX4_readLine 155 = .ok (.if_icmp .ge 51, 3) := by decide +kernel
theorem dX4_readLine_158 : decode cX4_readLine 158 = .ok (.iload_n 3, 1) := by decide +kernel
theorem dX4_readLine_159 : decode cX4_readLine 159 = .ok (.ifCond .le 13, 3) := by decide +kernel
theorem dX4_readLine_162 : decode cX4_readLine 162 = .ok (.aload_n 0, 1) := by decide +kernel
theorem dX4_readLine_163 : decode cX4_readLine 163 = .ok (.getfield 36, 3) := by decide +kernel
theorem dX4_readLine_166 : decode cX4_readLine 166 = .ok (.iconst 2, 1) := by decide +kernel
theorem dX4_readLine_167 : decode cX4_readLine 167 = .ok (.if_icmp .eq 5, 3) := by decide +kernel
theorem dX4_readLine_170 : decode cX4_readLine 170 = .ok (.iconst 1, 1) := by decide +kernel
theorem dX4_readLine_171 : decode cX4_readLine 171 = .ok (.ireturn, 1) := by decide +kernel
theorem dX4_readLine_172 : decode cX4_readLine 172 = .ok (.aload_n 0, 1) := by decide +kernel
theorem dX4_readLine_173 : decode cX4_readLine 173 = .ok (.aload_n 1, 1) := by decide +kernel
theorem dX4_readLine_174 : decode cX4_readLine 174 = .ok (.getfield 149, 3) := by decide +kernel
theorem dX4_readLine_177 : decode cX4_readLine 177 = .ok (.aload_n 1, 1) := by decide +kernel
theorem dX4_readLine_178 : decode cX4_readLine 178 = .ok (.iload_n 2, 1) := by decide +kernel
theorem dX4_readLine_179 : decode cX4_readLine 179 = .ok (.iload_n 3, 1) := by decide +kernel
theorem dX4_readLine_180 : decode cX4_readLine 180 = .ok (.invokevirtual 152, 3) := by decide +kernel
theorem dX4_readLine_183 : decode cX4_readLine 183 = .ok (.invokevirtual 156, 3) := by decide +kernel
theorem dX4_readLine_186 : decode cX4_readLine 186 = .ok (.ifCond .ne 5, 3) := by decide +kernel
theorem dX4_readLine_189 : decode cX4_readLine 189 = .ok (.iconst 0, 1) := by decide +kernel
theorem dX4_readLine_190 : decode cX4_readLine 190 = .ok (.ireturn, 1) := by decide +kernel
theorem dX4_readLine_191 : decode cX4_readLine 191 = .ok (.aload_n 1, 1) := by decide +kernel
theorem dX4_readLine_192 : decode cX4_readLine 192 = .ok (.getfield 160, 3) := by decide +kernel
theorem dX4_readLine_195 : decode cX4_readLine 195 = .ok (.iload_n 2, 1) := by decide +kernel
theorem dX4_readLine_196 : decode cX4_readLine 196 = .ok (.iload_n 3, 1) := by decide +kernel
theorem dX4_readLine_197 : decode cX4_readLine 197 = .ok (.iconst 1, 1) := by decide +kernel
theorem dX4_readLine_198 : decode cX4_readLine 198 = .ok (.iadd, 1) := by decide +kernel
theorem dX4_readLine_199 : decode cX4_readLine 199 = .ok (.iastore, 1) := by decide +kernel
theorem dX4_readLine_200 : decode cX4_readLine 200 = .ok (.iinc 3 1, 3) := by decide +kernel
theorem dX4_readLine_203 : decode cX4_readLine 203 = .ok (.goto (-51), 3) := by decide +kernel
theorem dX4_readLine_206 : decode cX4_readLine 206 = .ok (.aload_n 0, 1) := by decide +kernel
theorem dX4_readLine_207 : decode cX4_readLine 207 = .ok (.getfield 36, 3) := by decide +kernel
theorem dX4_readLine_210 : decode cX4_readLine 210 = .ok (.iconst 2, 1) := by decide +kernel
theorem dX4_readLine_211 : decode cX4_readLine 211 = .ok (.if_icmp .eq 5, 3) := by decide +kernel
theorem dX4_readLine_214 : decode cX4_readLine 214 = .ok (.iconst 1, 1) := by decide +kernel
theorem dX4_readLine_215 : decode cX4_readLine 215 = .ok (.ireturn, 1) := by decide +kernel
theorem dX4_readLine_216 : decode cX4_readLine 216 = .ok (.aload_n 0, 1) := by decide +kernel
theorem dX4_readLine_217 : decode cX4_readLine 217 = .ok (.getstatic 163, 3) := by decide +kernel
theorem dX4_readLine_220 : decode cX4_readLine 220 = .ok (.iconst 0, 1) := by decide +kernel
theorem dX4_readLine_221 : decode cX4_readLine 221 = .ok (.iaload, 1) := by decide +kernel
theorem dX4_readLine_222 : decode cX4_readLine 222 = .ok (.getstatic 166, 3) := by decide +kernel
theorem dX4_readLine_225 : decode cX4_readLine 225 = .ok (.iconst 0, 1) := by decide +kernel
theorem dX4_readLine_226 : decode cX4_readLine 226 = .ok (.iaload, 1) := by decide +kernel
theorem dX4_readLine_227 : decode cX4_readLine 227 = .ok (.invokevirtual 94, 3) := by decide +kernel
theorem dX4_readLine_230 : decode cX4_readLine 230 = .ok (.ifCond .eq 16, 3) := by decide +kernel
theorem dX4_readLine_233 : decode cX4_readLine 233 = .ok (.aload_n 0, 1) := by decide +kernel
theorem dX4_readLine_234 : decode cX4_readLine 234 = .ok (.bipush (-15), 2) := by decide +kernel
theorem dX4_readLine_236 : decode cX4_readLine 236 = .ok (.invokevirtual 81, 3) := by decide +kernel
theorem dX4_readLine_239 : decode cX4_readLine 239 = .ok (.ifCond .eq 7, 3) := by decide +kernel
theorem dX4_readLine_242 : decode cX4_readLine 242 = .ok (.iconst 1, 1) := by decide +kernel
theorem dX4_readLine_243 : decode cX4_readLine 243 = .ok (.goto 4, 3) := by decide +kernel
theorem dX4_readLine_246 : decode cX4_readLine 246 = .ok (.iconst 0, 1) := by decide +kernel
theorem dX4_readLine_247 : decode cX4_readLine 247 = .ok (.ireturn, 1) := by decide +kernel
theorem dX4_isNewName_0 : decode cX4_isNewName 0 = .ok (.aload_n 0, 1) := by decide +kernel
theorem dX4_isNewName_1 : decode cX4_isNewName 1 = .ok (.invokevirtual 196, 3) := by decide +kernel
theorem dX4_isNewName_4 : decode cX4_isNewName 4 = .ok (.ifCond .ne 10, 3) := by decide +kernel
theorem dX4_isNewName_7 : decode cX4_isNewName 7 = .ok (.aload_n 0, 1) := by decide +kernel
theorem dX4_isNewName_8 : decode cX4_isNewName 8 = .ok (.bipush (-11), 2) := by decide +kernel
theorem dX4_isNewName_10 : decode cX4_isNewName 10 = .ok (.invokevirtual 81, 3) := by decide +kernel
theorem dX4_isNewName_13 : decode cX4_isNewName 13 = .ok (.ireturn, 1) := by decide +kernel
theorem dX4_isNewName_14 : decode cX4_isNewName 14 = .ok (.aload_n 1, 1) := by decide +kernel
theorem dX4_isNewName_15 : decode cX4_isNewName 15 = .ok (.aload_n 0, 1) := by decide +kernel
theorem dX4_isNewName_16 : decode cX4_isNewName 16 = .ok (.getfield 91, 3) := by decide +kernel
theorem dX4_isNewName_19 : decode cX4_isNewName 19 = .ok (.invokevirtual 143, 3) := by decide +kernel
theorem dX4_isNewName_22 : decode cX4_isNewName 22 = .ok (.iconst (-1), 1) := by decide +kernel
theorem dX4_isNewName_23 : decode cX4_isNewName 23 = .ok (.if_icmp .ne 15, 3) := by decide +kernel
theorem dX4_isNewName_26 : decode cX4_isNewName 26 = .ok (.aload_n 1, 1) := by decide +kernel
theorem dX4_isNewName_27 : decode cX4_isNewName 27 = .ok (.aload_n 0, 1) := by decide +kernel
theorem dX4_isNewName_28 : decode cX4_isNewName 28 = .ok (.getfield 91, 3) := by decide +kernel
theorem dX4_isNewName_31 : decode cX4_isNewName 31 = .ok (.invokevirtual 130, 3) := by decide +kernel
theorem dX4_isNewName_34 : decode cX4_isNewName 34 = .ok (.iconst (-1), 1) := by decide +kernel
theorem dX4_isNewName_35 : decode cX4_isNewName 35 = .ok (.if_icmp .eq 10, 3) := by decide +kernel
theorem dX4_isNewName_38 : decode cX4_isNewName 38 = .ok (.aload_n 0, 1) := by decide +kernel
theorem dX4_isNewName_39 : decode cX4_isNewName 39 = .ok (.bipush (-14), 2) := by decide +kernel
theorem dX4_isNewName_41 : decode cX4_isNewName 41 = .ok (.invokevirtual 81, 3) := by decide +kernel
theorem dX4_isNewName_44 : decode cX4_isNewName 44 = .ok (.ireturn, 1) := by decide +kernel
theorem dX4_isNewName_45 : decode cX4_isNewName 45 = .ok (.iconst 1, 1) := by decide +kernel
theorem dX4_isNewName_46 : decode cX4_isNewName 46 = .ok (.ireturn, 1) := by decide +kernel
theorem dX4_readPoint_0 : decode cX4_readPoint 0 = .ok (.aload_n 1, 1) := by decide +kernel
theorem dX4_readPoint_1 : decode cX4_readPoint 1 = .ok (.getfield 111, 3) := by decide +kernel
theorem dX4_readPoint_4 : decode cX4_readPoint 4 = .ok (.bipush 16, 2) := by decide +kernel
theorem dX4_readPoint_6 : decode cX4_readPoint 6 = .ok (.if_icmp .lt 10, 3) := by decide +kernel
theorem dX4_readPoint_9 : decode cX4_readPoint 9 = .ok (.aload_n 0, 1) := by decide +kernel
theorem dX4_readPoint_10 : decode cX4_readPoint 10 = .ok (.bipush (-15), 2) := by decide +kernel
theorem dX4_readPoint_12 : decode cX4_readPoint 12 = .ok (.invokevirtual 81, 3) := by decide +kernel
theorem dX4_readPoint_15 : decode cX4_readPoint 15 = .ok (.ireturn, 1) := by decide +kernel
theorem dX4_readPoint_16 : decode cX4_readPoint 16 = .ok (.aload_n 0, 1) := by decide +kernel
theorem dX4_readPoint_17 : decode cX4_readPoint 17 = .ok (.invokevirtual 33, 3) := by decide +kernel
theorem dX4_readPoint_20 : decode cX4_readPoint 20 = .ok (.aload_n 0, 1) := by decide +kernel
theorem dX4_readPoint_21 : decode cX4_readPoint 21 = .ok (.aload_n 1, 1) := by decide +kernel
theorem dX4_readPoint_22 : decode cX4_readPoint 22 = .ok (.invokevirtual 88, 3) := by decide +kernel
theorem dX4_readPoint_25 : decode cX4_readPoint 25 = .ok (.ifCond .ne 5, 3) := by decide +kernel
theorem dX4_readPoint_28 : decode cX4_readPoint 28 = .ok (.iconst 0, 1) := by decide +kernel
theorem dX4_readPoint_29 : decode cX4_readPoint 29 = .ok (.ireturn, 1) := by decide +kernel
theorem dX4_readPoint_30 : decode cX4_readPoint 30 = .ok (.aload_n 0, 1) := by decide +kernel
theorem dX4_readPoint_31 : decode cX4_readPoint 31 = .ok (.getfield 91, 3) := by decide +kernel
theorem dX4_readPoint_34 : decode cX4_readPoint 34 = .ok (.istore_n 2, 1) := by decide +kernel
theorem dX4_readPoint_35 : decode cX4_readPoint 35 = .ok (.iconst (-1), 1) := by decide +kernel
theorem dX4_readPoint_36 : decode cX4_readPoint 36 = .ok (.istore_n 3, 1) := by decide +kernel
theorem dX4_readPoint_37 : decode cX4_readPoint 37 = .ok (.aload_n 0, 1) := by decide +kernel
theorem dX4_readPoint_38 : decode cX4_readPoint 38 = .ok (.invokevirtual 33, 3) := by decide +kernel
theorem dX4_readPoint_41 : decode cX4_readPoint 41 = .ok (.aload_n 0, 1) := by decide +kernel
theorem dX4_readPoint_42 : decode cX4_readPoint 42 = .ok (.getfield 36, 3) := by decide +kernel
theorem dX4_readPoint_45 : decode cX4_readPoint 45 = .ok (.iconst 2, 1) := by decide +kernel
theorem dX4_readPoint_46 : decode cX4_readPoint 46 = .ok (.if_icmp .ne 24, 3) := by decide +kernel
theorem dX4_readPoint_49 : decode cX4_readPoint 49 = .ok (.aload_n 0, 1) := by decide +kernel
theorem dX4_readPoint_50 : decode cX4_readPoint 50 = .ok (.iconst 0, 1) := by decide +kernel
theorem dX4_readPoint_51 : decode cX4_readPoint 51 = .ok (.ldc 114, 2) := by decide +kernel
theorem dX4_readPoint_53 : decode cX4_readPoint 53 = .ok (.invokevirtual 94, 3) := by decide +kernel
theorem dX4_readPoint_56 : decode cX4_readPoint 56 = .ok (.ifCond .ne 5, 3) := by decide +kernel
theorem dX4_readPoint_59 : decode cX4_readPoint 59 = .ok (.iconst 0, 1) := by decide +kernel
theorem dX4_readPoint_60 : decode cX4_readPoint 60 = .ok (.ireturn, 1) := by decide +kernel
theorem dX4_readPoint_61 : decode cX4_readPoint 61 = .ok (.aload_n 0, 1) := by decide +kernel
theorem dX4_readPoint_62 : decode cX4_readPoint 62 = .ok (.getfield 98, 3) := by decide +kernel
theorem dX4_readPoint_65 : decode cX4_readPoint 65 = .ok (.istore_n 3, 1) := by decide +kernel
theorem dX4_readPoint_66 : decode cX4_readPoint 66 = .ok (.aload_n 0, 1) := by decide +kernel
theorem dX4_readPoint_67 : decode cX4_readPoint 67 = .ok (.invokevirtual 33, 3) := by decide +kernel
theorem dX4_readPoint_70 : decode cX4_readPoint 70 = .ok (.aload_n 1, 1) := by decide +kernel
theorem dX4_readPoint_71 : decode cX4_readPoint 71 = .ok (.getfield 115, 3) := by decide +kernel
theorem dX4_readPoint_74 : decode cX4_readPoint 74 = .ok (.aload_n 1, 1) := by decide +kernel
theorem dX4_readPoint_75 : decode cX4_readPoint 75 = .ok (.getfield 111, 3) := by decide +kernel
theorem dX4_readPoint_78 : decode cX4_readPoint 78 = .ok (.iload_n 2, 1) := by decide +kernel
theorem dX4_readPoint_79 : decode cX4_readPoint 79 = .ok (.iastore, 1) := by decide +kernel
theorem dX4_readPoint_80 : decode cX4_readPoint 80 = .ok (.aload_n 1, 1) := by decide +kernel
theorem dX4_readPoint_81 : decode cX4_readPoint 81 = .ok (.getfield 118, 3) := by decide +kernel
theorem dX4_readPoint_84 : decode cX4_readPoint 84 = .ok (.aload_n 1, 1) := by decide +kernel
theorem dX4_readPoint_85 : decode cX4_readPoint 85 = .ok (.getfield 111, 3) := by decide +kernel
theorem dX4_readPoint_88 : decode cX4_readPoint 88 = .ok (.iload_n 3, 1) := by decide +kernel
theorem dX4_readPoint_89 : decode cX4_readPoint 89 = .ok (.iastore, 1) := by decide +kernel
theorem dX4_readPoint_90 : decode cX4_readPoint 90 = .ok (.aload_n 1, 1) := by decide +kernel
theorem dX4_readPoint_91 : decode cX4_readPoint 91 = .ok (.dup, 1) := by decide +kernel
theorem dX4_readPoint_92 : decode cX4_readPoint 92 = .ok (.getfield 111, 3) := by decide +kernel
theorem dX4_readPoint_95 : decode cX4_readPoint 95 = .ok (.iconst 1, 1) := by decide +kernel
theorem dX4_readPoint_96 : decode cX4_readPoint 96 = .ok (.iadd, 1) := by decide +kernel
theorem dX4_readPoint_97 : decode cX4_readPoint 97 = .ok (.putfield 111, 3) := by decide +kernel
theorem dX4_readPoint_100 : decode cX4_readPoint 100 = .ok (.iconst 1, 1) := by decide +kernel
theorem dX4_readPoint_101 : decode cX4_readPoint 101 = .ok (.ireturn, 1) := by decide +kernel
theorem dX4_readLevel_0 : decode cX4_readLevel 0 = .ok (.aload_n 1, 1) := by decide +kernel
theorem dX4_readLevel_1 : decode cX4_readLevel 1 = .ok (.getfield 85, 3) := by decide +kernel
theorem dX4_readLevel_4 : decode cX4_readLevel 4 = .ok (.iconst 3, 1) := by decide +kernel
theorem dX4_readLevel_5 : decode cX4_readLevel 5 = .ok (.if_icmp .lt 10, 3) := by decide +kernel
theorem dX4_readLevel_8 : decode cX4_readLevel 8 = .ok (.aload_n 0, 1) := by decide +kernel
theorem dX4_readLevel_9 : decode cX4_readLevel 9 = .ok (.bipush (-15), 2) := by decide +kernel
theorem dX4_readLevel_11 : decode cX4_readLevel 11 = .ok (.invokevirtual 81, 3) := by decide +kernel
theorem dX4_readLevel_14 : decode cX4_readLevel 14 = .ok (.ireturn, 1) := by decide +kernel
theorem dX4_readLevel_15 : decode cX4_readLevel 15 = .ok (.aload_n 0, 1) := by decide +kernel
theorem dX4_readLevel_16 : decode cX4_readLevel 16 = .ok (.invokevirtual 33, 3) := by decide +kernel
theorem dX4_readLevel_19 : decode cX4_readLevel 19 = .ok (.aload_n 0, 1) := by decide +kernel
theorem dX4_readLevel_20 : decode cX4_readLevel 20 = .ok (.aload_n 1, 1) := by decide +kernel
theorem dX4_readLevel_21 : decode cX4_readLevel 21 = .ok (.invokevirtual 88, 3) := by decide +kernel
theorem dX4_readLevel_24 : decode cX4_readLevel 24 = .ok (.ifCond .ne 5, 3) := by decide +kernel
theorem dX4_readLevel_27 : decode cX4_readLevel 27 = .ok (.iconst 0, 1) := by decide +kernel
theorem dX4_readLevel_28 : decode cX4_readLevel 28 = .ok (.ireturn, 1) := by decide +kernel
theorem dX4_readLevel_29 : decode cX4_readLevel 29 = .ok (.aload_n 0, 1) := by decide +kernel
theorem dX4_readLevel_30 : decode cX4_readLevel 30 = .ok (.getfield 91, 3) := by decide +kernel
theorem dX4_readLevel_33 : decode cX4_readLevel 33 = .ok (.istore_n 2, 1) := by decide +kernel
theorem dX4_readLevel_34 : decode cX4_readLevel 34 = .ok (.aload_n 0, 1) := by decide +kernel
theorem dX4_readLevel_35 : decode cX4_readLevel 35 = .ok (.invokevirtual 33, 3) := by decide +kernel
theorem dX4_readLevel_38 : decode cX4_readLevel 38 = .ok (.aload_n 0, 1) := by decide +kernel
theorem dX4_readLevel_39 : decode cX4_readLevel 39 = .ok (.iconst 0, 1) := by decide +kernel
theorem dX4_readLevel_40 : decode cX4_readLevel 40 = .ok (.sipush 200, 3) := by decide +kernel
theorem dX4_readLevel_43 : decode cX4_readLevel 43 = .ok (.invokevirtual 94, 3) := by decide +kernel
theorem dX4_readLevel_46 : decode cX4_readLevel 46 = .ok (.ifCond .ne 5, 3) := by decide +kernel
theorem dX4_readLevel_49 : decode cX4_readLevel 49 = .ok (.iconst 0, 1) := by decide +kernel
theorem dX4_readLevel_50 : decode cX4_readLevel 50 = .ok (.ireturn, 1) := by decide +kernel
theorem dX4_readLevel_51 : decode cX4_readLevel 51 = .ok (.aload_n 0, 1) := by decide +kernel
theorem dX4_readLevel_52 : decode cX4_readLevel 52 = .ok (.getfield 98, 3) := by decide +kernel
theorem dX4_readLevel_55 : decode cX4_readLevel 55 = .ok (.istore_n 3, 1) := by decide +kernel
theorem dX4_readLevel_56 : decode cX4_readLevel 56 = .ok (.aload_n 0, 1) := by decide +kernel
theorem dX4_readLevel_57 : decode cX4_readLevel 57 = .ok (.invokevirtual 33, 3) := by decide +kernel
theorem dX4_readLevel_60 : decode cX4_readLevel 60 = .ok (.aload_n 0, 1) := by decide +kernel
theorem dX4_readLevel_61 : decode cX4_readLevel 61 = .ok (.getstatic 101, 3) := by decide +kernel
theorem dX4_readLevel_64 : decode cX4_readLevel 64 = .ok (.invokevirtual 50, 3) := by decide +kernel
theorem dX4_readLevel_67 : decode cX4_readLevel 67 = .ok (.ifCond .eq 10, 3) := by decide +kernel
theorem dX4_readLevel_70 : decode cX4_readLevel 70 = .ok (.iload_n 3, 1) := by decide +kernel
theorem dX4_readLevel_71 : decode cX4_readLevel 71 = .ok (.ineg, 1) := by decide +kernel
theorem dX4_readLevel_72 : decode cX4_readLevel 72 = .ok (.istore_n 3, 1) := by decide +kernel
theorem dX4_readLevel_73 : decode cX4_readLevel 73 = .ok (.aload_n 0, 1) := by decide +kernel
theorem dX4_readLevel_74 : decode cX4_readLevel 74 = .ok (.invokevirtual 33, 3) := by decide +kernel
theorem dX4_readLevel_77 : decode cX4_readLevel 77 = .ok (.aload_n 1, 1) := by decide +kernel
theorem dX4_readLevel_78 : decode cX4_readLevel 78 = .ok (.getfield 104, 3) := by decide +kernel
theorem dX4_readLevel_81 : decode cX4_readLevel 81 = .ok (.aload_n 1, 1) := by decide +kernel
theorem dX4_readLevel_82 : decode cX4_readLevel 82 = .ok (.getfield 85, 3) := by decide +kernel
theorem dX4_readLevel_85 : decode cX4_readLevel 85 = .ok (.iload_n 2, 1) := by decide +kernel
theorem dX4_readLevel_86 : decode cX4_readLevel 86 = .ok (.iastore, 1) := by decide +kernel
theorem dX4_readLevel_87 : decode cX4_readLevel 87 = .ok (.aload_n 1, 1) := by decide +kernel
theorem dX4_readLevel_88 : decode cX4_readLevel 88 = .ok (.getfield 108, 3) := by decide +kernel
theorem dX4_readLevel_91 : decode cX4_readLevel 91 = .ok (.aload_n 1, 1) := by decide +kernel
theorem dX4_readLevel_92 : decode cX4_readLevel 92 = .ok (.getfield 85, 3) := by decide +kernel
theorem dX4_readLevel_95 : decode cX4_readLevel 95 = .ok (.iload_n 3, 1) := by decide +kernel
theorem dX4_readLevel_96 : decode cX4_readLevel 96 = .ok (.iastore, 1) := by decide +kernel
theorem dX4_readLevel_97 : decode cX4_readLevel 97 = .ok (.aload_n 1, 1) := by decide +kernel
theorem dX4_readLevel_98 : decode cX4_readLevel 98 = .ok (.dup, 1) := by decide +kernel
theorem dX4_readLevel_99 : decode cX4_readLevel 99 = .ok (.getfield 85, 3) := by decide +kernel
theorem dX4_readLevel_102 : decode cX4_readLevel 102 = .ok (.iconst 1, 1) := by decide +kernel
theorem dX4_readLevel_103 : decode cX4_readLevel 103 = .ok (.iadd, 1) := by decide +kernel
theorem dX4_readLevel_104 : decode cX4_readLevel 104 = .ok (.putfield 85, 3) := by decide +kernel
theorem dX4_readLevel_107 : decode cX4_readLevel 107 = .ok (.iconst 1, 1) := by decide +kernel
theorem dX4_readLevel_108 : decode cX4_readLevel 108 = .ok (.ireturn, 1) := by decide +kernel
theorem dX4_readStatement_0 : decode cX4_readStatement 0 = .ok (.aload_n 0, 1) := by decide +kernel
theorem dX4_readStatement_1 : decode cX4_readStatement 1 = .ok (.getstatic 46, 3) := by decide +kernel
theorem dX4_readStatement_4 : decode cX4_readStatement 4 = .ok (.invokevirtual 50, 3) := by decide +kernel
theorem dX4_readStatement_7 : decode cX4_readStatement 7 = .ok (.ifCond .eq 9, 3) := by decide +kernel
theorem dX4_readStatement_10 : decode cX4_readStatement 10 = .ok (.aload_n 0, 1) := by decide +kernel
theorem dX4_readStatement_11 : decode cX4_readStatement 11 = .ok (.aload_n 1, 1) := by decide +kernel
theorem dX4_readStatement_12 : decode cX4_readStatement 12 = .ok (.invokevirtual 54, 3) := by decide +kernel
theorem dX4_readStatement_15 : decode cX4_readStatement 15 = .ok (.ireturn, 1) := by decide +kernel
theorem dX4_readStatement_16 : decode cX4_readStatement 16 = .ok (.aload_n 0, 1) := by decide +kernel
theorem dX4_readStatement_17 : decode cX4_readStatement 17 = .ok (.getstatic 57, 3) := by decide +kernel
theorem dX4_readStatement_20 : decode cX4_readStatement 20 = .ok (.invokevirtual 50, 3) := by decide +kernel
theorem dX4_readStatement_23 : decode cX4_readStatement 23 = .ok (.ifCond .eq 9, 3) := by decide +kernel
theorem dX4_readStatement_26 : decode cX4_readStatement 26 = .ok (.aload_n 0, 1) := by decide +kernel
theorem dX4_readStatement_27 : decode cX4_readStatement 27 = .ok (.aload_n 1, 1) := by decide +kernel
theorem dX4_readStatement_28 : decode cX4_readStatement 28 = .ok (.invokevirtual 60, 3) := by decide +kernel
theorem dX4_readStatement_31 : decode cX4_readStatement 31 = .ok (.ireturn, 1) := by decide +kernel
theorem dX4_readStatement_32 : decode cX4_readStatement 32 = .ok (.aload_n 0, 1) := by decide +kernel
theorem dX4_readStatement_33 : decode cX4_readStatement 33 = .ok (.getstatic 63, 3) := by decide +kernel
theorem dX4_readStatement_36 : decode cX4_readStatement 36 = .ok (.invokevirtual 50, 3) := by decide +kernel
theorem dX4_readStatement_39 : decode cX4_readStatement 39 = .ok (.ifCond .eq 9, 3) := by decide +kernel
theorem dX4_readStatement_42 : decode cX4_readStatement 42 = .ok (.aload_n 0, 1) := by decide +kernel
theorem dX4_readStatement_43 : decode cX4_readStatement 43 = .ok (.aload_n 1, 1) := by decide +kernel
theorem dX4_readStatement_44 : decode cX4_readStatement 44 = .ok (.invokevirtual 66, 3) := by decide +kernel
theorem dX4_readStatement_47 : decode cX4_readStatement 47 = .ok (.ireturn, 1) := by decide +kernel
theorem dX4_readStatement_48 : decode cX4_readStatement 48 = .ok (.aload_n 0, 1) := by decide +kernel
theorem dX4_readStatement_49 : decode cX4_readStatement 49 = .ok (.getstatic 69, 3) := by decide +kernel
theorem dX4_readStatement_52 : decode cX4_readStatement 52 = .ok (.invokevirtual 50, 3) := by decide +kernel
theorem dX4_readStatement_55 : decode cX4_readStatement 55 = .ok (.ifCond .eq 9, 3) := by decide +kernel
theorem dX4_readStatement_58 : decode cX4_readStatement 58 = .ok (.aload_n 0, 1) := by decide +kernel
theorem dX4_readStatement_59 : decode cX4_readStatement 59 = .ok (.aload_n 1, 1) := by decide +kernel
theorem dX4_readStatement_60 : decode cX4_readStatement 60 = .ok (.invokevirtual 72, 3) := by decide +kernel
theorem dX4_readStatement_63 : decode cX4_readStatement 63 = .ok (.ireturn, 1) := by decide +kernel
theorem dX4_readStatement_64 : decode cX4_readStatement 64 = .ok (.aload_n 0, 1) := by decide +kernel
theorem dX4_readStatement_65 : decode cX4_readStatement 65 = .ok (.getstatic 75, 3) := by decide +kernel
theorem dX4_readStatement_68 : decode cX4_readStatement 68 = .ok (.invokevirtual 50, 3) := by decide +kernel
theorem dX4_readStatement_71 : decode cX4_readStatement 71 = .ok (.ifCond .eq 11, 3) := by decide +kernel
theorem dX4_readStatement_74 : decode cX4_readStatement 74 = .ok (.aload_n 0, 1) := by decide +kernel
theorem dX4_readStatement_75 : decode cX4_readStatement 75 = .ok (.aload_n 1, 1) := by decide +kernel
theorem dX4_readStatement_76 : decode cX4_readStatement 76 = .ok (.invokevirtual 78, 3) := by decide +kernel
theorem dX4_readStatement_79 : decode cX4_readStatement 79 = .ok (.goto 9, 3) := by decide +kernel
theorem dX4_readStatement_82 : decode cX4_readStatement 82 = .ok (.aload_n 0, 1) := by decide +kernel
theorem dX4_readStatement_83 : decode cX4_readStatement 83 = .ok (.bipush (-11), 2) := by decide +kernel
theorem dX4_readStatement_85 : decode cX4_readStatement 85 = .ok (.invokevirtual 81, 3) := by decide +kernel
theorem dX4_readStatement_88 : decode cX4_readStatement 88 = .ok (.ireturn, 1) := by decide +kernel
theorem dX4_readText_0 : decode cX4_readText 0 = .ok (.aload_n 0, 1) := by decide +kernel
theorem dX4_readText_1 : decode cX4_readText 1 = .ok (.iload_n 2, 1) := by decide +kernel
theorem dX4_readText_2 : decode cX4_readText 2 = .ok (.putfield 19, 3) := by decide +kernel
theorem dX4_readText_5 : decode cX4_readText 5 = .ok (.aload_n 0, 1) := by decide +kernel
theorem dX4_readText_6 : decode cX4_readText 6 = .ok (.iconst 0, 1) := by decide +kernel
theorem dX4_readText_7 : decode cX4_readText 7 = .ok (.putfield 22, 3) := by decide +kernel
theorem dX4_readText_10 : decode cX4_readText 10 = .ok (.aload_n 0, 1) := by decide +kernel
theorem dX4_readText_11 : decode cX4_readText 11 = .ok (.iconst 0, 1) := by decide +kernel
theorem dX4_readText_12 : decode cX4_readText 12 = .ok (.putfield 25, 3) := by decide +kernel
theorem dX4_readText_15 : decode cX4_readText 15 = .ok (.aload_n 1, 1) := by decide +kernel
theorem dX4_readText_16 : decode cX4_readText 16 = .ok (.invokevirtual 28, 3) := by decide +kernel
theorem dX4_readText_19 : decode cX4_readText 19 = .ok (.aload_n 0, 1) := by decide +kernel
theorem dX4_readText_20 : decode cX4_readText 20 = .ok (.invokevirtual 33, 3) := by decide +kernel
theorem dX4_readText_23 : decode cX4_readText 23 = .ok (.iconst 0, 1) := by decide +kernel
theorem dX4_readText_24 : decode cX4_readText 24 = .ok (.istore_n 3, 1) := by decide +kernel
theorem dX4_readText_25 : decode cX4_readText 25 = .ok (.iload_n 3, 1) := by decide +kernel
theorem dX4_readText_26 : decode cX4_readText 26 = .ok (.iload_n 2, 1) := by decide +kernel
theorem dX4_readText_27 : decode cX4_readText 27 = .ok (.if_icmp .gt 46, 3) := by decide +kernel
theorem dX4_readText_30 : decode cX4_readText 30 = .ok (.aload_n 0, 1) := by decide +kernel
theorem dX4_readText_31 : decode cX4_readText 31 = .ok (.getfield 36, 3) := by decide +kernel
theorem dX4_readText_34 : decode cX4_readText 34 = .ok (.ifCond .ne 5, 3) := by decide +kernel
theorem dX4_readText_37 : decode cX4_readText 37 = .ok (.iload_n 3, 1) := by decide +kernel
theorem dX4_readText_38 : decode cX4_readText 38 = .ok (.ireturn, 1) := by decide +kernel
theorem dX4_readText_39 : decode cX4_readText 39 = .ok (.aload_n 0, 1) := by decide +kernel
theorem dX4_readText_40 : decode cX4_readText 40 = .ok (.aload_n 1, 1) := by decide +kernel
theorem dX4_readText_41 : decode cX4_readText 41 = .ok (.invokevirtual 39, 3) := by decide +kernel
theorem dX4_readText_44 : decode cX4_readText 44 = .ok (.ifCond .ne 8, 3) := by decide +kernel
theorem dX4_readText_47 : decode cX4_readText 47 = .ok (.aload_n 0, 1) := by decide +kernel
theorem dX4_readText_48 : decode cX4_readText 48 = .ok (.getfield 43, 3) := by decide +kernel
theorem dX4_readText_51 : decode cX4_readText 51 = .ok (.ireturn, 1) := by decide +kernel
theorem dX4_readText_52 : decode cX4_readText 52 = .ok (.aload_n 0, 1) := by decide +kernel
theorem dX4_readText_53 : decode cX4_readText 53 = .ok (.getfield 36, 3) := by decide +kernel
theorem dX4_readText_56 : decode cX4_readText 56 = .ok (.iconst 3, 1) := by decide +kernel
theorem dX4_readText_57 : decode cX4_readText 57 = .ok (.if_icmp .eq 6, 3) := by decide +kernel
theorem dX4_readText_60 : decode cX4_readText 60 = .ok (.bipush (-11), 2) := by decide +kernel
theorem dX4_readText_62 : decode cX4_readText 62 = .ok (.ireturn, 1) := by decide +kernel
theorem dX4_readText_63 : decode cX4_readText 63 = .ok (.aload_n 0, 1) := by decide +kernel
theorem dX4_readText_64 : decode cX4_readText 64 = .ok (.invokevirtual 33, 3) := by decide +kernel
theorem dX4_readText_67 : decode cX4_readText 67 = .ok (.iinc 3 1, 3) := by decide +kernel
theorem dX4_readText_70 : decode cX4_readText 70 = .ok (.goto (-45), 3) := by decide +kernel
theorem dX4_readText_73 : decode cX4_readText 73 = .ok (.bipush (-11), 2) := by decide +kernel
theorem dX4_readText_75 : decode cX4_readText 75 = .ok (.ireturn, 1) := by decide +kernel
def b_X4_append_3 (x1 : Int32) (x2 : Int32) (μ : gM) : Option ((Int32 × gM) ⊕ (gM)) :=
  if (x2 < 0) then some (.inr μ) else gchk (gIn (gi μ 1 1) 1200) (some (.inl ((x2 + (-8 : Int32)), (si (si μ 2 (gi μ 1 1).toNatClampNeg (vp_nar .byte ((x1 >>> (x2 &&& 31)).toInt8.toInt32))) 1 1 ((gi (si μ 2 (gi μ 1 1).toNatClampNeg (vp_nar .byte ((x1 >>> (x2 &&& 31)).toInt8.toInt32))) 1 1) + (1 : Int32))))))
set_option maxHeartbeats 4000000 in
set_option maxRecDepth 100000 in
theorem wb_X4_append_3 {p : Program} {l : Launch} {e : Env} {s : State} {m : MethodId} {args : Array Value} {below : List Frame} {meth : Method} {c : Code} {D : va_G} {cy : Nat → ClassId} {ad : Nat → Nat} {base : gBs} {x1 : Int32} {x2 : Int32} {μ : gM} {o : (Int32 × gM) ⊕ (gM)} {RES : gM} (h : b_X4_append_3 x1 x2 μ = some o) (F : gF p s m meth c cX4_append RX4 3 none) (E : gEnv l D cy ad base s) (kc : ∀ (t : Int32 × gM) {H : Heap} {locs : List Loc} {ls : Array Slot}, o = .inl t → gW gFull D cy ad base t.2 H → va_S (gA base) s.heap H locs → lv_has ls 3 [(0, .ref (ad 1)), (1, .int x1), (2, .int t.1)] → W p l e ({ frames := 0, cells := 0, slots := 0, locals := 0 } : Room) s m args below meth c H locs 0 0 (MQ below (gQ none gFull D cy ad base RES) args s 0 0 (gA base)) (F0 m 3 ls [])) (kx : ∀ (t : gM) {H : Heap} {locs : List Loc} {ls : Array Slot}, o = .inr t → gW gFull D cy ad base t H → va_S (gA base) s.heap H locs → lv_has ls 3 [] → W p l e ({ frames := 0, cells := 0, slots := 0, locals := 0 } : Room) s m args below meth c H locs 0 0 (MQ below (gQ none gFull D cy ad base RES) args s 0 0 (gA base)) (F0 m 36 ls []))  {H : Heap} {locs : List Loc} {ls : Array Slot} (hM : gW gFull D cy ad base μ H) (hS : va_S (gA base) s.heap H locs) (hl : lv_has ls 3 [(0, .ref (ad 1)), (1, .int x1), (2, .int x2)]) : W p l e ({ frames := 0, cells := 0, slots := 0, locals := 0 } : Room) s m args below meth c H locs 0 0 (MQ below (gQ none gFull D cy ad base RES) args s 0 0 (gA base)) (F0 m 3 ls []) := by
  obtain ⟨hx, hb, hml, hown, hlocks, hr⟩ := id F
  unfold b_X4_append_3 at h
  refine lv_iload_n hx hb dX4_append_3 rfl (lv_at hl 2 rfl) ?_
  refine lv_if_lt (tgt := 36) hx hb dX4_append_4 (by decide) (fun c1 => ?_) (fun c1 => ?_)
  · replace h := gif_t c1 h
    exact kx _ (Option.some.inj h).symm hM hS (lv_sub hl [] rfl)
  · replace h := gif_f c1 h
    refine lv_aload_n hx hb dX4_append_7 rfl (lv_at hl 0 rfl) ?_
    refine gg_1_0 hx hb hown E hM hk_1 kw_174 dX4_append_8 ?_
    refine lv_aload_n hx hb dX4_append_11 rfl (lv_at hl 0 rfl) ?_
    refine gg_1_1 hx hb hown E hM hk_1 kw_176 dX4_append_12 ?_
    refine lv_iload_n hx hb dX4_append_15 rfl (lv_at hl 1 rfl) ?_
    refine lv_iload_n hx hb dX4_append_16 rfl (lv_at hl 2 rfl) ?_
    refine lv_ishr hx hb dX4_append_17 ?_
    refine lv_i2b (v := (x1 >>> (x2 &&& 31)).toInt8.toInt32) hx hb dX4_append_18 rfl ?_
    obtain ⟨c2, h⟩ := gchk_e h
    refine g_bast hx hb E hM hS hk_2 dd_2 c2 dX4_append_19 (fun H locs hM hS => ?_)
    refine lv_aload_n hx hb dX4_append_20 rfl (lv_at hl 0 rfl) ?_
    refine lv_dup hx hb dX4_append_21 rfl ?_
    refine gg_1_1 hx hb hown E hM hk_1 kw_176 dX4_append_22 ?_
    refine lv_iconst (v := (1 : Int32)) hx hb dX4_append_25 (by decide) ?_
    refine lv_iadd hx hb dX4_append_26 ?_
    refine gp_1_1 hx hb hown E hM hS hk_1 kw_176 dX4_append_27 (fun H locs hM hS => ?_)
    refine lv_iinc (v := (x2 + (-8 : Int32))) (lv' := [(2, .int (x2 + (-8 : Int32))), (0, .ref (ad 1)), (1, .int x1)]) hx hb dX4_append_30 hl (k := 2) rfl rfl (by decide) rfl (fun ls hl => ?_)
    refine lv_goto (tgt := 3) hx hb dX4_append_33 (by decide) ?_
    exact kc _ (Option.some.inj h).symm hM hS (lv_sub hl [1, 2, 0] rfl)
set_option maxHeartbeats 4000000 in
theorem wl_X4_append_3 {p : Program} {l : Launch} {e : Env} {s : State} {m : MethodId} {args : Array Value} {below : List Frame} {meth : Method} {c : Code} {D : va_G} {cy : Nat → ClassId} {ad : Nat → Nat} {base : gBs} {x1 : Int32} {r : gM} {RES : gM} (F : gF p s m meth c cX4_append RX4 3 none) (E : gEnv l D cy ad base s) (kx : ∀ (t : gM) {H : Heap} {locs : List Loc} {ls : Array Slot}, r = t → gW gFull D cy ad base t H → va_S (gA base) s.heap H locs → lv_has ls 3 [] → W p l e ({ frames := 0, cells := 0, slots := 0, locals := 0 } : Room) s m args below meth c H locs 0 0 (MQ below (gQ none gFull D cy ad base RES) args s 0 0 (gA base)) (F0 m 36 ls []))  : ∀ (n : Nat) (x2 : Int32) (μ : gM), gloop (fun t => b_X4_append_3 x1 t.1 t.2) n (x2, μ) = some r → ∀ {H : Heap} {locs : List Loc} {ls : Array Slot}, gW gFull D cy ad base μ H → va_S (gA base) s.heap H locs → lv_has ls 3 [(0, .ref (ad 1)), (1, .int x1), (2, .int x2)] → W p l e ({ frames := 0, cells := 0, slots := 0, locals := 0 } : Room) s m args below meth c H locs 0 0 (MQ below (gQ none gFull D cy ad base RES) args s 0 0 (gA base)) (F0 m 3 ls []) := by
  intro n
  induction n with
  | zero =>
    intro x2 μ h
    exact (gloop_0 h).elim
  | succ n ih =>
    intro x2 μ h H locs ls hM hS hl
    obtain ⟨o, h0, hc, hq⟩ := gloop_s h
    have h1 : b_X4_append_3 x1 x2 μ = some o := h0
    exact wb_X4_append_3 h1 F E (fun t H locs ls ho hM hS hl => ih t.1 t.2 (hc t ho) hM hS hl) (fun t H locs ls ho hM hS hl => kx t (hq _ ho).symm hM hS hl) hM hS hl
def f_X4_append (p1 : Int32) (μ : gM) : Option (gM) :=
  Option.bind (gloop (fun t => b_X4_append_3 p1 t.1 t.2) gFuel ((24 : Int32), μ)) (fun q3 => some q3)
set_option maxHeartbeats 4000000 in
set_option maxRecDepth 100000 in
theorem c_X4_append {l : Launch} {D : va_G} {cy : Nat → ClassId} {ad : Nat → Nat} {base : gBs} {p1 : Int32} {μ : gM} {RES : gM} (h : f_X4_append p1 μ = some RES) : Met l yX4_append [.code yX4_append cX4_append 3 none] ({ frames := 0, cells := 0, slots := 0, locals := 0 } : Room) (va_Pc [.ref (ad 1), .int p1] (gB l gFull D cy ad base μ)) (gQ none gFull D cy ad base RES) 0 0 (gA base) := by
  refine Met.ofW (cc := cX4_append) (maxL := 3) (ret := none) (by decide) rfl ?_
  intro p e s m args below meth c s₁ B hml0 hv
  obtain ⟨rfl, E, hM⟩ := hv
  have F : gF p s m meth c cX4_append RX4 3 none := gF_of B hml0
  obtain ⟨hx, hb, hml, hown, hlocks, hr⟩ := id F
  have hS : va_S (gA base) s.heap s.heap [] := va_S.rf
  have hl := lv_entry ([.ref (ad 1), .int p1]) (n := 3) (Nat.le_of_ble_eq_true rfl)
  rw [lg_entry_eq]
  generalize (lg_sl ([.ref (ad 1), .int p1]) ++ List.replicate (3 - (lg_sl ([.ref (ad 1), .int p1])).length) Slot.unset).toArray = ls at hl ⊢
  have hl : lv_has ls 3 [(0, .ref (ad 1)), (1, .int p1)] := hl
  unfold f_X4_append at h
  refine lv_bipush (v := (24 : Int32)) hx hb dX4_append_0 (by decide) ?_
  refine lv_istore_n (lv' := [(2, .int (24 : Int32)), (0, .ref (ad 1)), (1, .int p1)]) hx hb dX4_append_2 rfl hl (by decide) rfl (fun ls hl => ?_)
  obtain ⟨z4, h1, h⟩ := gbind_e h
  refine wl_X4_append_3 F E (r := z4) (fun q3 H locs ls e1 hM hS hl => ?_) gFuel (24 : Int32) μ h1 hM hS (lv_sub hl [1, 2, 0] rfl)
  replace e1 : z4 = q3 := e1
  rw [e1] at h
  obtain rfl := Option.some.inj h
  exact g_vret hx hb hr hlocks hM hS dX4_append_36
def b_X4_scanInteger_10  (μ : gM) : Option ((gM) ⊕ (gM)) :=
  if ((gi μ 1 2) ≤ (gi μ 1 4)) then some (.inr μ) else gchk (gIn (gi μ 1 4) 1200) (if ((gi μ 2 (gi μ 1 4).toNatClampNeg) < (48 : Int32)) then some (.inr μ) else gchk (gIn (gi μ 1 4) 1200) (if ((57 : Int32) < (gi μ 2 (gi μ 1 4).toNatClampNeg)) then some (.inr μ) else if ((9999999 : Int32) < (gi μ 1 7)) then some (.inl (si μ 1 4 ((gi μ 1 4) + (1 : Int32)))) else gchk (gIn (gi μ 1 4) 1200) (some (.inl (si (si μ 1 7 (((10 : Int32) * (gi μ 1 7)) + ((gi μ 2 (gi μ 1 4).toNatClampNeg) - (48 : Int32)))) 1 4 ((gi (si μ 1 7 (((10 : Int32) * (gi μ 1 7)) + ((gi μ 2 (gi μ 1 4).toNatClampNeg) - (48 : Int32)))) 1 4) + (1 : Int32)))))))
set_option maxHeartbeats 4000000 in
set_option maxRecDepth 100000 in
theorem wb_X4_scanInteger_10 {p : Program} {l : Launch} {e : Env} {s : State} {m : MethodId} {args : Array Value} {below : List Frame} {meth : Method} {c : Code} {D : va_G} {cy : Nat → ClassId} {ad : Nat → Nat} {base : gBs}  {μ : gM} {o : (gM) ⊕ (gM)} {RES : gM} (h : b_X4_scanInteger_10  μ = some o) (F : gF p s m meth c cX4_scanInteger RX4 1 none) (E : gEnv l D cy ad base s) (kc : ∀ (t : gM) {H : Heap} {locs : List Loc} {ls : Array Slot}, o = .inl t → gW gFull D cy ad base t H → va_S (gA base) s.heap H locs → lv_has ls 1 [(0, .ref (ad 1))] → W p l e ({ frames := 0, cells := 0, slots := 0, locals := 0 } : Room) s m args below meth c H locs 0 0 (MQ below (gQ none gFull D cy ad base RES) args s 0 0 (gA base)) (F0 m 10 ls [])) (kx : ∀ (t : gM) {H : Heap} {locs : List Loc} {ls : Array Slot}, o = .inr t → gW gFull D cy ad base t H → va_S (gA base) s.heap H locs → lv_has ls 1 [] → W p l e ({ frames := 0, cells := 0, slots := 0, locals := 0 } : Room) s m args below meth c H locs 0 0 (MQ below (gQ none gFull D cy ad base RES) args s 0 0 (gA base)) (F0 m 95 ls []))  {H : Heap} {locs : List Loc} {ls : Array Slot} (hM : gW gFull D cy ad base μ H) (hS : va_S (gA base) s.heap H locs) (hl : lv_has ls 1 [(0, .ref (ad 1))]) : W p l e ({ frames := 0, cells := 0, slots := 0, locals := 0 } : Room) s m args below meth c H locs 0 0 (MQ below (gQ none gFull D cy ad base RES) args s 0 0 (gA base)) (F0 m 10 ls []) := by
  obtain ⟨hx, hb, hml, hown, hlocks, hr⟩ := id F
  unfold b_X4_scanInteger_10 at h
  refine lv_aload_n hx hb dX4_scanInteger_10 rfl (lv_at hl 0 rfl) ?_
  refine gg_1_4 hx hb hown E hM hk_1 kw_180 dX4_scanInteger_11 ?_
  refine lv_aload_n hx hb dX4_scanInteger_14 rfl (lv_at hl 0 rfl) ?_
  refine gg_1_2 hx hb hown E hM hk_1 kw_177 dX4_scanInteger_15 ?_
  refine lv_icmp_ge (tgt := 95) hx hb dX4_scanInteger_18 (by decide) (fun c1 => ?_) (fun c1 => ?_)
  · replace h := gif_t c1 h
    exact kx _ (Option.some.inj h).symm hM hS (lv_sub hl [] rfl)
  · replace h := gif_f c1 h
    refine lv_aload_n hx hb dX4_scanInteger_21 rfl (lv_at hl 0 rfl) ?_
    refine gg_1_0 hx hb hown E hM hk_1 kw_174 dX4_scanInteger_22 ?_
    refine lv_aload_n hx hb dX4_scanInteger_25 rfl (lv_at hl 0 rfl) ?_
    refine gg_1_4 hx hb hown E hM hk_1 kw_180 dX4_scanInteger_26 ?_
    obtain ⟨c2, h⟩ := gchk_e h
    refine g_bald hx hb E hM hk_2 dd_2 c2 dX4_scanInteger_29 ?_
    refine lv_bipush (v := (48 : Int32)) hx hb dX4_scanInteger_30 (by decide) ?_
    refine lv_icmp_lt (tgt := 95) hx hb dX4_scanInteger_32 (by decide) (fun c3 => ?_) (fun c3 => ?_)
    · replace h := gif_t c3 h
      exact kx _ (Option.some.inj h).symm hM hS (lv_sub hl [] rfl)
    · replace h := gif_f c3 h
      refine lv_aload_n hx hb dX4_scanInteger_35 rfl (lv_at hl 0 rfl) ?_
      refine gg_1_0 hx hb hown E hM hk_1 kw_174 dX4_scanInteger_36 ?_
      refine lv_aload_n hx hb dX4_scanInteger_39 rfl (lv_at hl 0 rfl) ?_
      refine gg_1_4 hx hb hown E hM hk_1 kw_180 dX4_scanInteger_40 ?_
      obtain ⟨c4, h⟩ := gchk_e h
      refine g_bald hx hb E hM hk_2 dd_2 c4 dX4_scanInteger_43 ?_
      refine lv_bipush (v := (57 : Int32)) hx hb dX4_scanInteger_44 (by decide) ?_
      refine lv_icmp_gt (tgt := 95) hx hb dX4_scanInteger_46 (by decide) (fun c5 => ?_) (fun c5 => ?_)
      · replace h := gif_t c5 h
        exact kx _ (Option.some.inj h).symm hM hS (lv_sub hl [] rfl)
      · replace h := gif_f c5 h
        refine lv_aload_n hx hb dX4_scanInteger_49 rfl (lv_at hl 0 rfl) ?_
        refine gg_1_7 hx hb hown E hM hk_1 kw_183 dX4_scanInteger_50 ?_
        refine lv_ldc hx hb hown (v := (9999999 : Int32)) (E.kw kw_931) dX4_scanInteger_53 ?_
        refine lv_icmp_gt (tgt := 82) hx hb dX4_scanInteger_55 (by decide) (fun c6 => ?_) (fun c6 => ?_)
        · replace h := gif_t c6 h
          refine lv_aload_n hx hb dX4_scanInteger_82 rfl (lv_at hl 0 rfl) ?_
          refine lv_dup hx hb dX4_scanInteger_83 rfl ?_
          refine gg_1_4 hx hb hown E hM hk_1 kw_180 dX4_scanInteger_84 ?_
          refine lv_iconst (v := (1 : Int32)) hx hb dX4_scanInteger_87 (by decide) ?_
          refine lv_iadd hx hb dX4_scanInteger_88 ?_
          refine gp_1_4 hx hb hown E hM hS hk_1 kw_180 dX4_scanInteger_89 (fun H locs hM hS => ?_)
          refine lv_goto (tgt := 10) hx hb dX4_scanInteger_92 (by decide) ?_
          exact kc _ (Option.some.inj h).symm hM hS hl
        · replace h := gif_f c6 h
          refine lv_aload_n hx hb dX4_scanInteger_58 rfl (lv_at hl 0 rfl) ?_
          refine lv_bipush (v := (10 : Int32)) hx hb dX4_scanInteger_59 (by decide) ?_
          refine lv_aload_n hx hb dX4_scanInteger_61 rfl (lv_at hl 0 rfl) ?_
          refine gg_1_7 hx hb hown E hM hk_1 kw_183 dX4_scanInteger_62 ?_
          refine lv_imul hx hb dX4_scanInteger_65 ?_
          refine lv_aload_n hx hb dX4_scanInteger_66 rfl (lv_at hl 0 rfl) ?_
          refine gg_1_0 hx hb hown E hM hk_1 kw_174 dX4_scanInteger_67 ?_
          refine lv_aload_n hx hb dX4_scanInteger_70 rfl (lv_at hl 0 rfl) ?_
          refine gg_1_4 hx hb hown E hM hk_1 kw_180 dX4_scanInteger_71 ?_
          obtain ⟨c7, h⟩ := gchk_e h
          refine g_bald hx hb E hM hk_2 dd_2 c7 dX4_scanInteger_74 ?_
          refine lv_bipush (v := (48 : Int32)) hx hb dX4_scanInteger_75 (by decide) ?_
          refine lv_isub hx hb dX4_scanInteger_77 ?_
          refine lv_iadd hx hb dX4_scanInteger_78 ?_
          refine gp_1_7 hx hb hown E hM hS hk_1 kw_183 dX4_scanInteger_79 (fun H locs hM hS => ?_)
          refine lv_aload_n hx hb dX4_scanInteger_82 rfl (lv_at hl 0 rfl) ?_
          refine lv_dup hx hb dX4_scanInteger_83 rfl ?_
          refine gg_1_4 hx hb hown E hM hk_1 kw_180 dX4_scanInteger_84 ?_
          refine lv_iconst (v := (1 : Int32)) hx hb dX4_scanInteger_87 (by decide) ?_
          refine lv_iadd hx hb dX4_scanInteger_88 ?_
          refine gp_1_4 hx hb hown E hM hS hk_1 kw_180 dX4_scanInteger_89 (fun H locs hM hS => ?_)
          refine lv_goto (tgt := 10) hx hb dX4_scanInteger_92 (by decide) ?_
          exact kc _ (Option.some.inj h).symm hM hS hl
set_option maxHeartbeats 4000000 in
theorem wl_X4_scanInteger_10 {p : Program} {l : Launch} {e : Env} {s : State} {m : MethodId} {args : Array Value} {below : List Frame} {meth : Method} {c : Code} {D : va_G} {cy : Nat → ClassId} {ad : Nat → Nat} {base : gBs}  {r : gM} {RES : gM} (F : gF p s m meth c cX4_scanInteger RX4 1 none) (E : gEnv l D cy ad base s) (kx : ∀ (t : gM) {H : Heap} {locs : List Loc} {ls : Array Slot}, r = t → gW gFull D cy ad base t H → va_S (gA base) s.heap H locs → lv_has ls 1 [] → W p l e ({ frames := 0, cells := 0, slots := 0, locals := 0 } : Room) s m args below meth c H locs 0 0 (MQ below (gQ none gFull D cy ad base RES) args s 0 0 (gA base)) (F0 m 95 ls []))  : ∀ (n : Nat)  (μ : gM), gloop (fun t => b_X4_scanInteger_10   t) n μ = some r → ∀ {H : Heap} {locs : List Loc} {ls : Array Slot}, gW gFull D cy ad base μ H → va_S (gA base) s.heap H locs → lv_has ls 1 [(0, .ref (ad 1))] → W p l e ({ frames := 0, cells := 0, slots := 0, locals := 0 } : Room) s m args below meth c H locs 0 0 (MQ below (gQ none gFull D cy ad base RES) args s 0 0 (gA base)) (F0 m 10 ls []) := by
  intro n
  induction n with
  | zero =>
    intro μ h
    exact (gloop_0 h).elim
  | succ n ih =>
    intro μ h H locs ls hM hS hl
    obtain ⟨o, h0, hc, hq⟩ := gloop_s h
    have h1 : b_X4_scanInteger_10  μ = some o := h0
    exact wb_X4_scanInteger_10 h1 F E (fun t H locs ls ho hM hS hl => ih t (hc t ho) hM hS hl) (fun t H locs ls ho hM hS hl => kx t (hq _ ho).symm hM hS hl) hM hS hl
def f_X4_scanInteger (μ : gM) : Option (gM) :=
  Option.bind (gloop (fun t => b_X4_scanInteger_10   t) gFuel (si (si μ 1 5 (2 : Int32)) 1 7 (0 : Int32))) (fun q8 => some q8)
set_option maxHeartbeats 4000000 in
set_option maxRecDepth 100000 in
theorem c_X4_scanInteger {l : Launch} {D : va_G} {cy : Nat → ClassId} {ad : Nat → Nat} {base : gBs}  {μ : gM} {RES : gM} (h : f_X4_scanInteger  μ = some RES) : Met l yX4_scanInteger [.code yX4_scanInteger cX4_scanInteger 1 none] ({ frames := 0, cells := 0, slots := 0, locals := 0 } : Room) (va_Pc [.ref (ad 1)] (gB l gFull D cy ad base μ)) (gQ none gFull D cy ad base RES) 0 0 (gA base) := by
  refine Met.ofW (cc := cX4_scanInteger) (maxL := 1) (ret := none) (by decide) rfl ?_
  intro p e s m args below meth c s₁ B hml0 hv
  obtain ⟨rfl, E, hM⟩ := hv
  have F : gF p s m meth c cX4_scanInteger RX4 1 none := gF_of B hml0
  obtain ⟨hx, hb, hml, hown, hlocks, hr⟩ := id F
  have hS : va_S (gA base) s.heap s.heap [] := va_S.rf
  have hl := lv_entry ([.ref (ad 1)]) (n := 1) (Nat.le_of_ble_eq_true rfl)
  rw [lg_entry_eq]
  generalize (lg_sl ([.ref (ad 1)]) ++ List.replicate (1 - (lg_sl ([.ref (ad 1)])).length) Slot.unset).toArray = ls at hl ⊢
  have hl : lv_has ls 1 [(0, .ref (ad 1))] := hl
  unfold f_X4_scanInteger at h
  refine lv_aload_n hx hb dX4_scanInteger_0 rfl (lv_at hl 0 rfl) ?_
  refine lv_iconst (v := (2 : Int32)) hx hb dX4_scanInteger_1 (by decide) ?_
  refine gp_1_5 hx hb hown E hM hS hk_1 kw_181 dX4_scanInteger_2 (fun H locs hM hS => ?_)
  refine lv_aload_n hx hb dX4_scanInteger_5 rfl (lv_at hl 0 rfl) ?_
  refine lv_iconst (v := (0 : Int32)) hx hb dX4_scanInteger_6 (by decide) ?_
  refine gp_1_7 hx hb hown E hM hS hk_1 kw_183 dX4_scanInteger_7 (fun H locs hM hS => ?_)
  obtain ⟨z9, h1, h⟩ := gbind_e h
  refine wl_X4_scanInteger_10 F E (r := z9) (fun q8 H locs ls e1 hM hS hl => ?_) gFuel (si (si μ 1 5 (2 : Int32)) 1 7 (0 : Int32)) h1 hM hS hl
  replace e1 : z9 = q8 := e1
  rw [e1] at h
  obtain rfl := Option.some.inj h
  exact g_vret hx hb hr hlocks hM hS dX4_scanInteger_95
def b_X4_scanWord_10  (μ : gM) : Option ((gM) ⊕ (gM)) :=
  if ((gi μ 1 2) ≤ (gi μ 1 4)) then some (.inr μ) else gchk (gIn (gi μ 1 4) 1200) (if ((gi μ 2 (gi μ 1 4).toNatClampNeg) < (97 : Int32)) then some (.inr μ) else gchk (gIn (gi μ 1 4) 1200) (if ((122 : Int32) < (gi μ 2 (gi μ 1 4).toNatClampNeg)) then some (.inr μ) else if ((6 : Int32) ≤ ((gi μ 1 4) - (gi μ 1 3))) then some (.inl (si μ 1 4 ((gi μ 1 4) + (1 : Int32)))) else gchk (gIn (gi μ 1 4) 1200) (some (.inl (si (si μ 1 6 ((gi μ 1 6) ||| ((((gi μ 2 (gi μ 1 4).toNatClampNeg) - (97 : Int32)) + (1 : Int32)) <<< (((5 : Int32) * ((5 : Int32) - ((gi μ 1 4) - (gi μ 1 3)))) &&& 31)))) 1 4 ((gi (si μ 1 6 ((gi μ 1 6) ||| ((((gi μ 2 (gi μ 1 4).toNatClampNeg) - (97 : Int32)) + (1 : Int32)) <<< (((5 : Int32) * ((5 : Int32) - ((gi μ 1 4) - (gi μ 1 3)))) &&& 31)))) 1 4) + (1 : Int32)))))))
set_option maxHeartbeats 4000000 in
set_option maxRecDepth 100000 in
theorem wb_X4_scanWord_10 {p : Program} {l : Launch} {e : Env} {s : State} {m : MethodId} {args : Array Value} {below : List Frame} {meth : Method} {c : Code} {D : va_G} {cy : Nat → ClassId} {ad : Nat → Nat} {base : gBs}  {μ : gM} {o : (gM) ⊕ (gM)} {RES : gM} (h : b_X4_scanWord_10  μ = some o) (F : gF p s m meth c cX4_scanWord RX4 2 none) (E : gEnv l D cy ad base s) (kc : ∀ (t : gM) {H : Heap} {locs : List Loc} {ls : Array Slot}, o = .inl t → gW gFull D cy ad base t H → va_S (gA base) s.heap H locs → lv_has ls 2 [(0, .ref (ad 1))] → W p l e ({ frames := 0, cells := 0, slots := 0, locals := 0 } : Room) s m args below meth c H locs 0 0 (MQ below (gQ none gFull D cy ad base RES) args s 0 0 (gA base)) (F0 m 10 ls [])) (kx : ∀ (t : gM) {H : Heap} {locs : List Loc} {ls : Array Slot}, o = .inr t → gW gFull D cy ad base t H → va_S (gA base) s.heap H locs → lv_has ls 2 [] → W p l e ({ frames := 0, cells := 0, slots := 0, locals := 0 } : Room) s m args below meth c H locs 0 0 (MQ below (gQ none gFull D cy ad base RES) args s 0 0 (gA base)) (F0 m 107 ls []))  {H : Heap} {locs : List Loc} {ls : Array Slot} (hM : gW gFull D cy ad base μ H) (hS : va_S (gA base) s.heap H locs) (hl : lv_has ls 2 [(0, .ref (ad 1))]) : W p l e ({ frames := 0, cells := 0, slots := 0, locals := 0 } : Room) s m args below meth c H locs 0 0 (MQ below (gQ none gFull D cy ad base RES) args s 0 0 (gA base)) (F0 m 10 ls []) := by
  obtain ⟨hx, hb, hml, hown, hlocks, hr⟩ := id F
  unfold b_X4_scanWord_10 at h
  refine lv_aload_n hx hb dX4_scanWord_10 rfl (lv_at hl 0 rfl) ?_
  refine gg_1_4 hx hb hown E hM hk_1 kw_180 dX4_scanWord_11 ?_
  refine lv_aload_n hx hb dX4_scanWord_14 rfl (lv_at hl 0 rfl) ?_
  refine gg_1_2 hx hb hown E hM hk_1 kw_177 dX4_scanWord_15 ?_
  refine lv_icmp_ge (tgt := 107) hx hb dX4_scanWord_18 (by decide) (fun c1 => ?_) (fun c1 => ?_)
  · replace h := gif_t c1 h
    exact kx _ (Option.some.inj h).symm hM hS (lv_sub hl [] rfl)
  · replace h := gif_f c1 h
    refine lv_aload_n hx hb dX4_scanWord_21 rfl (lv_at hl 0 rfl) ?_
    refine gg_1_0 hx hb hown E hM hk_1 kw_174 dX4_scanWord_22 ?_
    refine lv_aload_n hx hb dX4_scanWord_25 rfl (lv_at hl 0 rfl) ?_
    refine gg_1_4 hx hb hown E hM hk_1 kw_180 dX4_scanWord_26 ?_
    obtain ⟨c2, h⟩ := gchk_e h
    refine g_bald hx hb E hM hk_2 dd_2 c2 dX4_scanWord_29 ?_
    refine lv_bipush (v := (97 : Int32)) hx hb dX4_scanWord_30 (by decide) ?_
    refine lv_icmp_lt (tgt := 107) hx hb dX4_scanWord_32 (by decide) (fun c3 => ?_) (fun c3 => ?_)
    · replace h := gif_t c3 h
      exact kx _ (Option.some.inj h).symm hM hS (lv_sub hl [] rfl)
    · replace h := gif_f c3 h
      refine lv_aload_n hx hb dX4_scanWord_35 rfl (lv_at hl 0 rfl) ?_
      refine gg_1_0 hx hb hown E hM hk_1 kw_174 dX4_scanWord_36 ?_
      refine lv_aload_n hx hb dX4_scanWord_39 rfl (lv_at hl 0 rfl) ?_
      refine gg_1_4 hx hb hown E hM hk_1 kw_180 dX4_scanWord_40 ?_
      obtain ⟨c4, h⟩ := gchk_e h
      refine g_bald hx hb E hM hk_2 dd_2 c4 dX4_scanWord_43 ?_
      refine lv_bipush (v := (122 : Int32)) hx hb dX4_scanWord_44 (by decide) ?_
      refine lv_icmp_gt (tgt := 107) hx hb dX4_scanWord_46 (by decide) (fun c5 => ?_) (fun c5 => ?_)
      · replace h := gif_t c5 h
        exact kx _ (Option.some.inj h).symm hM hS (lv_sub hl [] rfl)
      · replace h := gif_f c5 h
        refine lv_aload_n hx hb dX4_scanWord_49 rfl (lv_at hl 0 rfl) ?_
        refine gg_1_4 hx hb hown E hM hk_1 kw_180 dX4_scanWord_50 ?_
        refine lv_aload_n hx hb dX4_scanWord_53 rfl (lv_at hl 0 rfl) ?_
        refine gg_1_3 hx hb hown E hM hk_1 kw_179 dX4_scanWord_54 ?_
        refine lv_isub hx hb dX4_scanWord_57 ?_
        refine lv_istore_n (lv' := [(1, .int ((gi μ 1 4) - (gi μ 1 3))), (0, .ref (ad 1))]) hx hb dX4_scanWord_58 rfl hl (by decide) rfl (fun ls hl => ?_)
        refine lv_iload_n hx hb dX4_scanWord_59 rfl (lv_at hl 0 rfl) ?_
        refine lv_bipush (v := (6 : Int32)) hx hb dX4_scanWord_60 (by decide) ?_
        refine lv_icmp_ge (tgt := 94) hx hb dX4_scanWord_62 (by decide) (fun c6 => ?_) (fun c6 => ?_)
        · replace h := gif_t c6 h
          refine lv_aload_n hx hb dX4_scanWord_94 rfl (lv_at hl 1 rfl) ?_
          refine lv_dup hx hb dX4_scanWord_95 rfl ?_
          refine gg_1_4 hx hb hown E hM hk_1 kw_180 dX4_scanWord_96 ?_
          refine lv_iconst (v := (1 : Int32)) hx hb dX4_scanWord_99 (by decide) ?_
          refine lv_iadd hx hb dX4_scanWord_100 ?_
          refine gp_1_4 hx hb hown E hM hS hk_1 kw_180 dX4_scanWord_101 (fun H locs hM hS => ?_)
          refine lv_goto (tgt := 10) hx hb dX4_scanWord_104 (by decide) ?_
          exact kc _ (Option.some.inj h).symm hM hS (lv_sub hl [1] rfl)
        · replace h := gif_f c6 h
          refine lv_aload_n hx hb dX4_scanWord_65 rfl (lv_at hl 1 rfl) ?_
          refine lv_dup hx hb dX4_scanWord_66 rfl ?_
          refine gg_1_6 hx hb hown E hM hk_1 kw_182 dX4_scanWord_67 ?_
          refine lv_aload_n hx hb dX4_scanWord_70 rfl (lv_at hl 1 rfl) ?_
          refine gg_1_0 hx hb hown E hM hk_1 kw_174 dX4_scanWord_71 ?_
          refine lv_aload_n hx hb dX4_scanWord_74 rfl (lv_at hl 1 rfl) ?_
          refine gg_1_4 hx hb hown E hM hk_1 kw_180 dX4_scanWord_75 ?_
          obtain ⟨c7, h⟩ := gchk_e h
          refine g_bald hx hb E hM hk_2 dd_2 c7 dX4_scanWord_78 ?_
          refine lv_bipush (v := (97 : Int32)) hx hb dX4_scanWord_79 (by decide) ?_
          refine lv_isub hx hb dX4_scanWord_81 ?_
          refine lv_iconst (v := (1 : Int32)) hx hb dX4_scanWord_82 (by decide) ?_
          refine lv_iadd hx hb dX4_scanWord_83 ?_
          refine lv_iconst (v := (5 : Int32)) hx hb dX4_scanWord_84 (by decide) ?_
          refine lv_iconst (v := (5 : Int32)) hx hb dX4_scanWord_85 (by decide) ?_
          refine lv_iload_n hx hb dX4_scanWord_86 rfl (lv_at hl 0 rfl) ?_
          refine lv_isub hx hb dX4_scanWord_87 ?_
          refine lv_imul hx hb dX4_scanWord_88 ?_
          refine lv_ishl hx hb dX4_scanWord_89 ?_
          refine lv_ior hx hb dX4_scanWord_90 ?_
          refine gp_1_6 hx hb hown E hM hS hk_1 kw_182 dX4_scanWord_91 (fun H locs hM hS => ?_)
          refine lv_aload_n hx hb dX4_scanWord_94 rfl (lv_at hl 1 rfl) ?_
          refine lv_dup hx hb dX4_scanWord_95 rfl ?_
          refine gg_1_4 hx hb hown E hM hk_1 kw_180 dX4_scanWord_96 ?_
          refine lv_iconst (v := (1 : Int32)) hx hb dX4_scanWord_99 (by decide) ?_
          refine lv_iadd hx hb dX4_scanWord_100 ?_
          refine gp_1_4 hx hb hown E hM hS hk_1 kw_180 dX4_scanWord_101 (fun H locs hM hS => ?_)
          refine lv_goto (tgt := 10) hx hb dX4_scanWord_104 (by decide) ?_
          exact kc _ (Option.some.inj h).symm hM hS (lv_sub hl [1] rfl)
set_option maxHeartbeats 4000000 in
theorem wl_X4_scanWord_10 {p : Program} {l : Launch} {e : Env} {s : State} {m : MethodId} {args : Array Value} {below : List Frame} {meth : Method} {c : Code} {D : va_G} {cy : Nat → ClassId} {ad : Nat → Nat} {base : gBs}  {r : gM} {RES : gM} (F : gF p s m meth c cX4_scanWord RX4 2 none) (E : gEnv l D cy ad base s) (kx : ∀ (t : gM) {H : Heap} {locs : List Loc} {ls : Array Slot}, r = t → gW gFull D cy ad base t H → va_S (gA base) s.heap H locs → lv_has ls 2 [] → W p l e ({ frames := 0, cells := 0, slots := 0, locals := 0 } : Room) s m args below meth c H locs 0 0 (MQ below (gQ none gFull D cy ad base RES) args s 0 0 (gA base)) (F0 m 107 ls []))  : ∀ (n : Nat)  (μ : gM), gloop (fun t => b_X4_scanWord_10   t) n μ = some r → ∀ {H : Heap} {locs : List Loc} {ls : Array Slot}, gW gFull D cy ad base μ H → va_S (gA base) s.heap H locs → lv_has ls 2 [(0, .ref (ad 1))] → W p l e ({ frames := 0, cells := 0, slots := 0, locals := 0 } : Room) s m args below meth c H locs 0 0 (MQ below (gQ none gFull D cy ad base RES) args s 0 0 (gA base)) (F0 m 10 ls []) := by
  intro n
  induction n with
  | zero =>
    intro μ h
    exact (gloop_0 h).elim
  | succ n ih =>
    intro μ h H locs ls hM hS hl
    obtain ⟨o, h0, hc, hq⟩ := gloop_s h
    have h1 : b_X4_scanWord_10  μ = some o := h0
    exact wb_X4_scanWord_10 h1 F E (fun t H locs ls ho hM hS hl => ih t (hc t ho) hM hS hl) (fun t H locs ls ho hM hS hl => kx t (hq _ ho).symm hM hS hl) hM hS hl
def f_X4_scanWord (μ : gM) : Option (gM) :=
  Option.bind (gloop (fun t => b_X4_scanWord_10   t) gFuel (si (si μ 1 5 (1 : Int32)) 1 6 (0 : Int32))) (fun q8 => some q8)
set_option maxHeartbeats 4000000 in
set_option maxRecDepth 100000 in
theorem c_X4_scanWord {l : Launch} {D : va_G} {cy : Nat → ClassId} {ad : Nat → Nat} {base : gBs}  {μ : gM} {RES : gM} (h : f_X4_scanWord  μ = some RES) : Met l yX4_scanWord [.code yX4_scanWord cX4_scanWord 2 none] ({ frames := 0, cells := 0, slots := 0, locals := 0 } : Room) (va_Pc [.ref (ad 1)] (gB l gFull D cy ad base μ)) (gQ none gFull D cy ad base RES) 0 0 (gA base) := by
  refine Met.ofW (cc := cX4_scanWord) (maxL := 2) (ret := none) (by decide) rfl ?_
  intro p e s m args below meth c s₁ B hml0 hv
  obtain ⟨rfl, E, hM⟩ := hv
  have F : gF p s m meth c cX4_scanWord RX4 2 none := gF_of B hml0
  obtain ⟨hx, hb, hml, hown, hlocks, hr⟩ := id F
  have hS : va_S (gA base) s.heap s.heap [] := va_S.rf
  have hl := lv_entry ([.ref (ad 1)]) (n := 2) (Nat.le_of_ble_eq_true rfl)
  rw [lg_entry_eq]
  generalize (lg_sl ([.ref (ad 1)]) ++ List.replicate (2 - (lg_sl ([.ref (ad 1)])).length) Slot.unset).toArray = ls at hl ⊢
  have hl : lv_has ls 2 [(0, .ref (ad 1))] := hl
  unfold f_X4_scanWord at h
  refine lv_aload_n hx hb dX4_scanWord_0 rfl (lv_at hl 0 rfl) ?_
  refine lv_iconst (v := (1 : Int32)) hx hb dX4_scanWord_1 (by decide) ?_
  refine gp_1_5 hx hb hown E hM hS hk_1 kw_181 dX4_scanWord_2 (fun H locs hM hS => ?_)
  refine lv_aload_n hx hb dX4_scanWord_5 rfl (lv_at hl 0 rfl) ?_
  refine lv_iconst (v := (0 : Int32)) hx hb dX4_scanWord_6 (by decide) ?_
  refine gp_1_6 hx hb hown E hM hS hk_1 kw_182 dX4_scanWord_7 (fun H locs hM hS => ?_)
  obtain ⟨z9, h1, h⟩ := gbind_e h
  refine wl_X4_scanWord_10 F E (r := z9) (fun q8 H locs ls e1 hM hS hl => ?_) gFuel (si (si μ 1 5 (1 : Int32)) 1 6 (0 : Int32)) h1 hM hS hl
  replace e1 : z9 = q8 := e1
  rw [e1] at h
  obtain rfl := Option.some.inj h
  exact g_vret hx hb hr hlocks hM hS dX4_scanWord_107
def b_X4_advance_8  (μ : gM) : Option ((gM) ⊕ (gM)) :=
  if ((gi μ 1 2) ≤ (gi μ 1 3)) then some (.inr μ) else gchk (gIn (gi μ 1 3) 1200) (if ((gi μ 2 (gi μ 1 3).toNatClampNeg) = (32 : Int32)) then some (.inl (si μ 1 3 ((gi μ 1 3) + (1 : Int32)))) else gchk (gIn (gi μ 1 3) 1200) (if ((gi μ 2 (gi μ 1 3).toNatClampNeg) = (10 : Int32)) then some (.inl (si μ 1 3 ((gi μ 1 3) + (1 : Int32)))) else some (.inr μ)))
set_option maxHeartbeats 4000000 in
set_option maxRecDepth 100000 in
theorem wb_X4_advance_8 {p : Program} {l : Launch} {e : Env} {s : State} {m : MethodId} {args : Array Value} {below : List Frame} {meth : Method} {c : Code} {D : va_G} {cy : Nat → ClassId} {ad : Nat → Nat} {base : gBs}  {μ : gM} {o : (gM) ⊕ (gM)} {RES : gM} (h : b_X4_advance_8  μ = some o) (F : gF p s m meth c cX4_advance RX4 1 none) (E : gEnv l D cy ad base s) (kc : ∀ (t : gM) {H : Heap} {locs : List Loc} {ls : Array Slot}, o = .inl t → gW gFull D cy ad base t H → va_S (gA base) s.heap H locs → lv_has ls 1 [(0, .ref (ad 1))] → W p l e ({ frames := 1, cells := 0, slots := 0, locals := 21 } : Room) s m args below meth c H locs 0 0 (MQ below (gQ none gFull D cy ad base RES) args s 0 0 (gA base)) (F0 m 8 ls [])) (kx : ∀ (t : gM) {H : Heap} {locs : List Loc} {ls : Array Slot}, o = .inr t → gW gFull D cy ad base t H → va_S (gA base) s.heap H locs → lv_has ls 1 [(0, .ref (ad 1))] → W p l e ({ frames := 1, cells := 0, slots := 0, locals := 21 } : Room) s m args below meth c H locs 0 0 (MQ below (gQ none gFull D cy ad base RES) args s 0 0 (gA base)) (F0 m 60 ls []))  {H : Heap} {locs : List Loc} {ls : Array Slot} (hM : gW gFull D cy ad base μ H) (hS : va_S (gA base) s.heap H locs) (hl : lv_has ls 1 [(0, .ref (ad 1))]) : W p l e ({ frames := 1, cells := 0, slots := 0, locals := 21 } : Room) s m args below meth c H locs 0 0 (MQ below (gQ none gFull D cy ad base RES) args s 0 0 (gA base)) (F0 m 8 ls []) := by
  obtain ⟨hx, hb, hml, hown, hlocks, hr⟩ := id F
  unfold b_X4_advance_8 at h
  refine lv_aload_n hx hb dX4_advance_8 rfl (lv_at hl 0 rfl) ?_
  refine gg_1_3 hx hb hown E hM hk_1 kw_179 dX4_advance_9 ?_
  refine lv_aload_n hx hb dX4_advance_12 rfl (lv_at hl 0 rfl) ?_
  refine gg_1_2 hx hb hown E hM hk_1 kw_177 dX4_advance_13 ?_
  refine lv_icmp_ge (tgt := 60) hx hb dX4_advance_16 (by decide) (fun c1 => ?_) (fun c1 => ?_)
  · replace h := gif_t c1 h
    exact kx _ (Option.some.inj h).symm hM hS hl
  · replace h := gif_f c1 h
    refine lv_aload_n hx hb dX4_advance_19 rfl (lv_at hl 0 rfl) ?_
    refine gg_1_0 hx hb hown E hM hk_1 kw_174 dX4_advance_20 ?_
    refine lv_aload_n hx hb dX4_advance_23 rfl (lv_at hl 0 rfl) ?_
    refine gg_1_3 hx hb hown E hM hk_1 kw_179 dX4_advance_24 ?_
    obtain ⟨c2, h⟩ := gchk_e h
    refine g_bald hx hb E hM hk_2 dd_2 c2 dX4_advance_27 ?_
    refine lv_bipush (v := (32 : Int32)) hx hb dX4_advance_28 (by decide) ?_
    refine lv_icmp_eq (tgt := 47) hx hb dX4_advance_30 (by decide) (fun c3 => ?_) (fun c3 => ?_)
    · replace h := gif_t c3 h
      refine lv_aload_n hx hb dX4_advance_47 rfl (lv_at hl 0 rfl) ?_
      refine lv_dup hx hb dX4_advance_48 rfl ?_
      refine gg_1_3 hx hb hown E hM hk_1 kw_179 dX4_advance_49 ?_
      refine lv_iconst (v := (1 : Int32)) hx hb dX4_advance_52 (by decide) ?_
      refine lv_iadd hx hb dX4_advance_53 ?_
      refine gp_1_3 hx hb hown E hM hS hk_1 kw_179 dX4_advance_54 (fun H locs hM hS => ?_)
      refine lv_goto (tgt := 8) hx hb dX4_advance_57 (by decide) ?_
      exact kc _ (Option.some.inj h).symm hM hS hl
    · replace h := gif_f c3 h
      refine lv_aload_n hx hb dX4_advance_33 rfl (lv_at hl 0 rfl) ?_
      refine gg_1_0 hx hb hown E hM hk_1 kw_174 dX4_advance_34 ?_
      refine lv_aload_n hx hb dX4_advance_37 rfl (lv_at hl 0 rfl) ?_
      refine gg_1_3 hx hb hown E hM hk_1 kw_179 dX4_advance_38 ?_
      obtain ⟨c4, h⟩ := gchk_e h
      refine g_bald hx hb E hM hk_2 dd_2 c4 dX4_advance_41 ?_
      refine lv_bipush (v := (10 : Int32)) hx hb dX4_advance_42 (by decide) ?_
      refine lv_icmp_ne (tgt := 60) hx hb dX4_advance_44 (by decide) (fun c5 => ?_) (fun c5 => ?_)
      · replace h := gif_f c5 h
        exact kx _ (Option.some.inj h).symm hM hS hl
      · replace h := gif_t c5 h
        refine lv_aload_n hx hb dX4_advance_47 rfl (lv_at hl 0 rfl) ?_
        refine lv_dup hx hb dX4_advance_48 rfl ?_
        refine gg_1_3 hx hb hown E hM hk_1 kw_179 dX4_advance_49 ?_
        refine lv_iconst (v := (1 : Int32)) hx hb dX4_advance_52 (by decide) ?_
        refine lv_iadd hx hb dX4_advance_53 ?_
        refine gp_1_3 hx hb hown E hM hS hk_1 kw_179 dX4_advance_54 (fun H locs hM hS => ?_)
        refine lv_goto (tgt := 8) hx hb dX4_advance_57 (by decide) ?_
        exact kc _ (Option.some.inj h).symm hM hS hl
set_option maxHeartbeats 4000000 in
theorem wl_X4_advance_8 {p : Program} {l : Launch} {e : Env} {s : State} {m : MethodId} {args : Array Value} {below : List Frame} {meth : Method} {c : Code} {D : va_G} {cy : Nat → ClassId} {ad : Nat → Nat} {base : gBs}  {r : gM} {RES : gM} (F : gF p s m meth c cX4_advance RX4 1 none) (E : gEnv l D cy ad base s) (kx : ∀ (t : gM) {H : Heap} {locs : List Loc} {ls : Array Slot}, r = t → gW gFull D cy ad base t H → va_S (gA base) s.heap H locs → lv_has ls 1 [(0, .ref (ad 1))] → W p l e ({ frames := 1, cells := 0, slots := 0, locals := 21 } : Room) s m args below meth c H locs 0 0 (MQ below (gQ none gFull D cy ad base RES) args s 0 0 (gA base)) (F0 m 60 ls []))  : ∀ (n : Nat)  (μ : gM), gloop (fun t => b_X4_advance_8   t) n μ = some r → ∀ {H : Heap} {locs : List Loc} {ls : Array Slot}, gW gFull D cy ad base μ H → va_S (gA base) s.heap H locs → lv_has ls 1 [(0, .ref (ad 1))] → W p l e ({ frames := 1, cells := 0, slots := 0, locals := 21 } : Room) s m args below meth c H locs 0 0 (MQ below (gQ none gFull D cy ad base RES) args s 0 0 (gA base)) (F0 m 8 ls []) := by
  intro n
  induction n with
  | zero =>
    intro μ h
    exact (gloop_0 h).elim
  | succ n ih =>
    intro μ h H locs ls hM hS hl
    obtain ⟨o, h0, hc, hq⟩ := gloop_s h
    have h1 : b_X4_advance_8  μ = some o := h0
    exact wb_X4_advance_8 h1 F E (fun t H locs ls ho hM hS hl => ih t (hc t ho) hM hS hl) (fun t H locs ls ho hM hS hl => kx t (hq _ ho).symm hM hS hl) hM hS hl
def j_X4_advance_177 (y1 : Int32) (μ : gM) : Option (gM) :=
  some (si (si μ 1 5 y1) 1 4 ((gi (si μ 1 5 y1) 1 4) + (1 : Int32)))
set_option maxHeartbeats 4000000 in
set_option maxRecDepth 100000 in
theorem wj_X4_advance_177 {p : Program} {l : Launch} {e : Env} {s : State} {m : MethodId} {args : Array Value} {below : List Frame} {meth : Method} {c : Code} {D : va_G} {cy : Nat → ClassId} {ad : Nat → Nat} {base : gBs} {y1 : Int32} {μ : gM} {o : gM} (h : j_X4_advance_177 y1 μ = some o) (F : gF p s m meth c cX4_advance RX4 1 none) (E : gEnv l D cy ad base s)  {H : Heap} {locs : List Loc} {ls : Array Slot} (hM : gW gFull D cy ad base μ H) (hS : va_S (gA base) s.heap H locs) (hl : lv_has ls 1 [(0, .ref (ad 1))]) : W p l e ({ frames := 1, cells := 0, slots := 0, locals := 21 } : Room) s m args below meth c H locs 0 0 (MQ below (gQ none gFull D cy ad base o) args s 0 0 (gA base)) (F0 m 177 ls [.int y1, .ref (ad 1)]) := by
  obtain ⟨hx, hb, hml, hown, hlocks, hr⟩ := id F
  unfold j_X4_advance_177 at h
  refine gp_1_5 hx hb hown E hM hS hk_1 kw_181 dX4_advance_177 (fun H locs hM hS => ?_)
  refine lv_aload_n hx hb dX4_advance_180 rfl (lv_at hl 0 rfl) ?_
  refine lv_dup hx hb dX4_advance_181 rfl ?_
  refine gg_1_4 hx hb hown E hM hk_1 kw_180 dX4_advance_182 ?_
  refine lv_iconst (v := (1 : Int32)) hx hb dX4_advance_185 (by decide) ?_
  refine lv_iadd hx hb dX4_advance_186 ?_
  refine gp_1_4 hx hb hown E hM hS hk_1 kw_180 dX4_advance_187 (fun H locs hM hS => ?_)
  obtain rfl := Option.some.inj h
  exact g_vret hx hb hr hlocks hM hS dX4_advance_190
def j_X4_advance_157  (μ : gM) : Option (gM) :=
  gchk (gIn (gi μ 1 3) 1200) (if ((gi μ 2 (gi μ 1 3).toNatClampNeg) = (59 : Int32)) then j_X4_advance_177 (3 : Int32) μ else j_X4_advance_177 (4 : Int32) μ)
set_option maxHeartbeats 4000000 in
set_option maxRecDepth 100000 in
theorem wj_X4_advance_157 {p : Program} {l : Launch} {e : Env} {s : State} {m : MethodId} {args : Array Value} {below : List Frame} {meth : Method} {c : Code} {D : va_G} {cy : Nat → ClassId} {ad : Nat → Nat} {base : gBs}  {μ : gM} {o : gM} (h : j_X4_advance_157  μ = some o) (F : gF p s m meth c cX4_advance RX4 1 none) (E : gEnv l D cy ad base s)  {H : Heap} {locs : List Loc} {ls : Array Slot} (hM : gW gFull D cy ad base μ H) (hS : va_S (gA base) s.heap H locs) (hl : lv_has ls 1 [(0, .ref (ad 1))]) : W p l e ({ frames := 1, cells := 0, slots := 0, locals := 21 } : Room) s m args below meth c H locs 0 0 (MQ below (gQ none gFull D cy ad base o) args s 0 0 (gA base)) (F0 m 157 ls []) := by
  obtain ⟨hx, hb, hml, hown, hlocks, hr⟩ := id F
  unfold j_X4_advance_157 at h
  refine lv_aload_n hx hb dX4_advance_157 rfl (lv_at hl 0 rfl) ?_
  refine lv_aload_n hx hb dX4_advance_158 rfl (lv_at hl 0 rfl) ?_
  refine gg_1_0 hx hb hown E hM hk_1 kw_174 dX4_advance_159 ?_
  refine lv_aload_n hx hb dX4_advance_162 rfl (lv_at hl 0 rfl) ?_
  refine gg_1_3 hx hb hown E hM hk_1 kw_179 dX4_advance_163 ?_
  obtain ⟨c12, h⟩ := gchk_e h
  refine g_bald hx hb E hM hk_2 dd_2 c12 dX4_advance_166 ?_
  refine lv_bipush (v := (59 : Int32)) hx hb dX4_advance_167 (by decide) ?_
  refine lv_icmp_ne (tgt := 176) hx hb dX4_advance_169 (by decide) (fun c13 => ?_) (fun c13 => ?_)
  · replace h := gif_f c13 h
    refine lv_iconst (v := (4 : Int32)) hx hb dX4_advance_176 (by decide) ?_
    exact wj_X4_advance_177 h F E hM hS hl
  · replace h := gif_t c13 h
    refine lv_iconst (v := (3 : Int32)) hx hb dX4_advance_172 (by decide) ?_
    refine lv_goto (tgt := 177) hx hb dX4_advance_173 (by decide) ?_
    exact wj_X4_advance_177 h F E hM hS hl
def j_X4_advance_122  (μ : gM) : Option (gM) :=
  gchk (gIn (gi μ 1 3) 1200) (if ((gi μ 2 (gi μ 1 3).toNatClampNeg) < (48 : Int32)) then j_X4_advance_157  μ else gchk (gIn (gi μ 1 3) 1200) (if ((57 : Int32) < (gi μ 2 (gi μ 1 3).toNatClampNeg)) then j_X4_advance_157  μ else Option.bind (f_X4_scanInteger  μ) (fun q16 => some q16)))
set_option maxHeartbeats 4000000 in
set_option maxRecDepth 100000 in
theorem wj_X4_advance_122 {p : Program} {l : Launch} {e : Env} {s : State} {m : MethodId} {args : Array Value} {below : List Frame} {meth : Method} {c : Code} {D : va_G} {cy : Nat → ClassId} {ad : Nat → Nat} {base : gBs}  {μ : gM} {o : gM} (h : j_X4_advance_122  μ = some o) (F : gF p s m meth c cX4_advance RX4 1 none) (E : gEnv l D cy ad base s)  {H : Heap} {locs : List Loc} {ls : Array Slot} (hM : gW gFull D cy ad base μ H) (hS : va_S (gA base) s.heap H locs) (hl : lv_has ls 1 [(0, .ref (ad 1))]) : W p l e ({ frames := 1, cells := 0, slots := 0, locals := 21 } : Room) s m args below meth c H locs 0 0 (MQ below (gQ none gFull D cy ad base o) args s 0 0 (gA base)) (F0 m 122 ls []) := by
  obtain ⟨hx, hb, hml, hown, hlocks, hr⟩ := id F
  unfold j_X4_advance_122 at h
  refine lv_aload_n hx hb dX4_advance_122 rfl (lv_at hl 0 rfl) ?_
  refine gg_1_0 hx hb hown E hM hk_1 kw_174 dX4_advance_123 ?_
  refine lv_aload_n hx hb dX4_advance_126 rfl (lv_at hl 0 rfl) ?_
  refine gg_1_3 hx hb hown E hM hk_1 kw_179 dX4_advance_127 ?_
  obtain ⟨c10, h⟩ := gchk_e h
  refine g_bald hx hb E hM hk_2 dd_2 c10 dX4_advance_130 ?_
  refine lv_bipush (v := (48 : Int32)) hx hb dX4_advance_131 (by decide) ?_
  refine lv_icmp_lt (tgt := 157) hx hb dX4_advance_133 (by decide) (fun c11 => ?_) (fun c11 => ?_)
  · replace h := gif_t c11 h
    exact wj_X4_advance_157 h F E hM hS hl
  · replace h := gif_f c11 h
    refine lv_aload_n hx hb dX4_advance_136 rfl (lv_at hl 0 rfl) ?_
    refine gg_1_0 hx hb hown E hM hk_1 kw_174 dX4_advance_137 ?_
    refine lv_aload_n hx hb dX4_advance_140 rfl (lv_at hl 0 rfl) ?_
    refine gg_1_3 hx hb hown E hM hk_1 kw_179 dX4_advance_141 ?_
    obtain ⟨c14, h⟩ := gchk_e h
    refine g_bald hx hb E hM hk_2 dd_2 c14 dX4_advance_144 ?_
    refine lv_bipush (v := (57 : Int32)) hx hb dX4_advance_145 (by decide) ?_
    refine lv_icmp_gt (tgt := 157) hx hb dX4_advance_147 (by decide) (fun c15 => ?_) (fun c15 => ?_)
    · replace h := gif_t c15 h
      exact wj_X4_advance_157 h F E hM hS hl
    · replace h := gif_f c15 h
      refine lv_aload_n hx hb dX4_advance_150 rfl (lv_at hl 0 rfl) ?_
      obtain ⟨q16, hq16, h⟩ := gbind_e h
      refine g_callV (As := []) (rest := []) hx hb (hml.trans hl.1.symm) hown E hM hS hy_X4_scanInteger kw_927 (c_X4_scanInteger hq16) hk_1 dd_1 rfl rfl rfl (Nat.le_of_ble_eq_true rfl) ⟨Nat.le_of_ble_eq_true rfl, Nat.le_of_ble_eq_true rfl⟩ ⟨Nat.le_of_ble_eq_true rfl, Nat.le_of_ble_eq_true rfl⟩ dX4_advance_151 (fun H locs hM hS => ?_)
      refine lv_goto (tgt := 190) hx hb dX4_advance_154 (by decide) ?_
      obtain rfl := Option.some.inj h
      exact g_vret hx hb hr hlocks hM hS dX4_advance_190
def j_X4_advance_60  (μ : gM) : Option (gM) :=
  if ((gi (si μ 1 4 (gi μ 1 3)) 1 3) < (gi (si μ 1 4 (gi μ 1 3)) 1 2)) then gchk (gIn (gi (si μ 1 4 (gi μ 1 3)) 1 3) 1200) (if ((gi (si μ 1 4 (gi μ 1 3)) 2 (gi (si μ 1 4 (gi μ 1 3)) 1 3).toNatClampNeg) < (97 : Int32)) then j_X4_advance_122  (si μ 1 4 (gi μ 1 3)) else gchk (gIn (gi (si μ 1 4 (gi μ 1 3)) 1 3) 1200) (if ((122 : Int32) < (gi (si μ 1 4 (gi μ 1 3)) 2 (gi (si μ 1 4 (gi μ 1 3)) 1 3).toNatClampNeg)) then j_X4_advance_122  (si μ 1 4 (gi μ 1 3)) else Option.bind (f_X4_scanWord  (si μ 1 4 (gi μ 1 3))) (fun q19 => some q19))) else some (si (si μ 1 4 (gi μ 1 3)) 1 5 (0 : Int32))
set_option maxHeartbeats 4000000 in
set_option maxRecDepth 100000 in
theorem wj_X4_advance_60 {p : Program} {l : Launch} {e : Env} {s : State} {m : MethodId} {args : Array Value} {below : List Frame} {meth : Method} {c : Code} {D : va_G} {cy : Nat → ClassId} {ad : Nat → Nat} {base : gBs}  {μ : gM} {o : gM} (h : j_X4_advance_60  μ = some o) (F : gF p s m meth c cX4_advance RX4 1 none) (E : gEnv l D cy ad base s)  {H : Heap} {locs : List Loc} {ls : Array Slot} (hM : gW gFull D cy ad base μ H) (hS : va_S (gA base) s.heap H locs) (hl : lv_has ls 1 [(0, .ref (ad 1))]) : W p l e ({ frames := 1, cells := 0, slots := 0, locals := 21 } : Room) s m args below meth c H locs 0 0 (MQ below (gQ none gFull D cy ad base o) args s 0 0 (gA base)) (F0 m 60 ls []) := by
  obtain ⟨hx, hb, hml, hown, hlocks, hr⟩ := id F
  unfold j_X4_advance_60 at h
  refine lv_aload_n hx hb dX4_advance_60 rfl (lv_at hl 0 rfl) ?_
  refine lv_aload_n hx hb dX4_advance_61 rfl (lv_at hl 0 rfl) ?_
  refine gg_1_3 hx hb hown E hM hk_1 kw_179 dX4_advance_62 ?_
  refine gp_1_4 hx hb hown E hM hS hk_1 kw_180 dX4_advance_65 (fun H locs hM hS => ?_)
  refine lv_aload_n hx hb dX4_advance_68 rfl (lv_at hl 0 rfl) ?_
  refine gg_1_3 hx hb hown E hM hk_1 kw_179 dX4_advance_69 ?_
  refine lv_aload_n hx hb dX4_advance_72 rfl (lv_at hl 0 rfl) ?_
  refine gg_1_2 hx hb hown E hM hk_1 kw_177 dX4_advance_73 ?_
  refine lv_icmp_lt (tgt := 87) hx hb dX4_advance_76 (by decide) (fun c7 => ?_) (fun c7 => ?_)
  · replace h := gif_t c7 h
    refine lv_aload_n hx hb dX4_advance_87 rfl (lv_at hl 0 rfl) ?_
    refine gg_1_0 hx hb hown E hM hk_1 kw_174 dX4_advance_88 ?_
    refine lv_aload_n hx hb dX4_advance_91 rfl (lv_at hl 0 rfl) ?_
    refine gg_1_3 hx hb hown E hM hk_1 kw_179 dX4_advance_92 ?_
    obtain ⟨c8, h⟩ := gchk_e h
    refine g_bald hx hb E hM hk_2 dd_2 c8 dX4_advance_95 ?_
    refine lv_bipush (v := (97 : Int32)) hx hb dX4_advance_96 (by decide) ?_
    refine lv_icmp_lt (tgt := 122) hx hb dX4_advance_98 (by decide) (fun c9 => ?_) (fun c9 => ?_)
    · replace h := gif_t c9 h
      exact wj_X4_advance_122 h F E hM hS hl
    · replace h := gif_f c9 h
      refine lv_aload_n hx hb dX4_advance_101 rfl (lv_at hl 0 rfl) ?_
      refine gg_1_0 hx hb hown E hM hk_1 kw_174 dX4_advance_102 ?_
      refine lv_aload_n hx hb dX4_advance_105 rfl (lv_at hl 0 rfl) ?_
      refine gg_1_3 hx hb hown E hM hk_1 kw_179 dX4_advance_106 ?_
      obtain ⟨c17, h⟩ := gchk_e h
      refine g_bald hx hb E hM hk_2 dd_2 c17 dX4_advance_109 ?_
      refine lv_bipush (v := (122 : Int32)) hx hb dX4_advance_110 (by decide) ?_
      refine lv_icmp_gt (tgt := 122) hx hb dX4_advance_112 (by decide) (fun c18 => ?_) (fun c18 => ?_)
      · replace h := gif_t c18 h
        exact wj_X4_advance_122 h F E hM hS hl
      · replace h := gif_f c18 h
        refine lv_aload_n hx hb dX4_advance_115 rfl (lv_at hl 0 rfl) ?_
        obtain ⟨q19, hq19, h⟩ := gbind_e h
        refine g_callV (As := []) (rest := []) hx hb (hml.trans hl.1.symm) hown E hM hS hy_X4_scanWord kw_923 (c_X4_scanWord hq19) hk_1 dd_1 rfl rfl rfl (Nat.le_of_ble_eq_true rfl) ⟨Nat.le_of_ble_eq_true rfl, Nat.le_of_ble_eq_true rfl⟩ ⟨Nat.le_of_ble_eq_true rfl, Nat.le_of_ble_eq_true rfl⟩ dX4_advance_116 (fun H locs hM hS => ?_)
        refine lv_goto (tgt := 190) hx hb dX4_advance_119 (by decide) ?_
        obtain rfl := Option.some.inj h
        exact g_vret hx hb hr hlocks hM hS dX4_advance_190
  · replace h := gif_f c7 h
    refine lv_aload_n hx hb dX4_advance_79 rfl (lv_at hl 0 rfl) ?_
    refine lv_iconst (v := (0 : Int32)) hx hb dX4_advance_80 (by decide) ?_
    refine gp_1_5 hx hb hown E hM hS hk_1 kw_181 dX4_advance_81 (fun H locs hM hS => ?_)
    refine lv_goto (tgt := 190) hx hb dX4_advance_84 (by decide) ?_
    obtain rfl := Option.some.inj h
    exact g_vret hx hb hr hlocks hM hS dX4_advance_190
def f_X4_advance (μ : gM) : Option (gM) :=
  Option.bind (gloop (fun t => b_X4_advance_8   t) gFuel (si μ 1 3 (gi μ 1 4))) (fun q6 => j_X4_advance_60  q6)
set_option maxHeartbeats 4000000 in
set_option maxRecDepth 100000 in
theorem c_X4_advance {l : Launch} {D : va_G} {cy : Nat → ClassId} {ad : Nat → Nat} {base : gBs}  {μ : gM} {RES : gM} (h : f_X4_advance  μ = some RES) : Met l yX4_advance [.code yX4_advance cX4_advance 1 none] ({ frames := 1, cells := 0, slots := 0, locals := 21 } : Room) (va_Pc [.ref (ad 1)] (gB l gFull D cy ad base μ)) (gQ none gFull D cy ad base RES) 0 0 (gA base) := by
  refine Met.ofW (cc := cX4_advance) (maxL := 1) (ret := none) (by decide) rfl ?_
  intro p e s m args below meth c s₁ B hml0 hv
  obtain ⟨rfl, E, hM⟩ := hv
  have F : gF p s m meth c cX4_advance RX4 1 none := gF_of B hml0
  obtain ⟨hx, hb, hml, hown, hlocks, hr⟩ := id F
  have hS : va_S (gA base) s.heap s.heap [] := va_S.rf
  have hl := lv_entry ([.ref (ad 1)]) (n := 1) (Nat.le_of_ble_eq_true rfl)
  rw [lg_entry_eq]
  generalize (lg_sl ([.ref (ad 1)]) ++ List.replicate (1 - (lg_sl ([.ref (ad 1)])).length) Slot.unset).toArray = ls at hl ⊢
  have hl : lv_has ls 1 [(0, .ref (ad 1))] := hl
  unfold f_X4_advance at h
  refine lv_aload_n hx hb dX4_advance_0 rfl (lv_at hl 0 rfl) ?_
  refine lv_aload_n hx hb dX4_advance_1 rfl (lv_at hl 0 rfl) ?_
  refine gg_1_4 hx hb hown E hM hk_1 kw_180 dX4_advance_2 ?_
  refine gp_1_3 hx hb hown E hM hS hk_1 kw_179 dX4_advance_5 (fun H locs hM hS => ?_)
  obtain ⟨z20, h1, h⟩ := gbind_e h
  refine wl_X4_advance_8 F E (r := z20) (fun q6 H locs ls e1 hM hS hl => ?_) gFuel (si μ 1 3 (gi μ 1 4)) h1 hM hS hl
  replace e1 : z20 = q6 := e1
  rw [e1] at h
  exact wj_X4_advance_60 h F E hM hS hl
def b_X4_isWord_5_26 (x2 : Int32) (μ : gM) : Option ((Int32) ⊕ ((Unit) ⊕ (Bool))) :=
  if ((5 : Int32) ≤ x2) then some (.inr (.inl ())) else gchk (gIn ((gi μ 1 3) + x2) 1200) (gchk (gIn x2 5) (if ((gi μ 2 ((gi μ 1 3) + x2).toNatClampNeg) = (sc 5 x2.toNatClampNeg)) then some (.inl (x2 + (1 : Int32))) else some (.inr (.inr false))))
set_option maxHeartbeats 4000000 in
set_option maxRecDepth 100000 in
theorem wb_X4_isWord_5_26 {p : Program} {l : Launch} {e : Env} {s : State} {m : MethodId} {args : Array Value} {below : List Frame} {meth : Method} {c : Code} {D : va_G} {cy : Nat → ClassId} {ad : Nat → Nat} {base : gBs} {x2 : Int32} {μ : gM} {o : (Int32) ⊕ ((Unit) ⊕ (Bool))} {RES : Bool} (h : b_X4_isWord_5_26 x2 μ = some o) (F : gF p s m meth c cX4_isWord RX4 3 (some .boolean)) (E : gEnv l D cy ad base s) (kc : ∀ (t : Int32) {H : Heap} {locs : List Loc} {ls : Array Slot}, o = .inl t → gW gFull D cy ad base μ H → va_S (gA base) s.heap H locs → lv_has ls 3 [(0, .ref (ad 1)), (1, .ref (ad (100 + 5))), (2, .int t)] → W p l e ({ frames := 0, cells := 0, slots := 0, locals := 0 } : Room) s m args below meth c H locs 0 0 (MQ below (gQ (some (.int (b2i RES))) gFull D cy ad base μ) args s 0 0 (gA base)) (F0 m 26 ls [])) (kx : ∀ (t : Unit) {H : Heap} {locs : List Loc} {ls : Array Slot}, o = .inr (.inl t) → gW gFull D cy ad base μ H → va_S (gA base) s.heap H locs → lv_has ls 3 [] → W p l e ({ frames := 0, cells := 0, slots := 0, locals := 0 } : Room) s m args below meth c H locs 0 0 (MQ below (gQ (some (.int (b2i RES))) gFull D cy ad base μ) args s 0 0 (gA base)) (F0 m 57 ls [])) (kr : ∀ x : Bool, o = .inr (.inr x) → x = RES) {H : Heap} {locs : List Loc} {ls : Array Slot} (hM : gW gFull D cy ad base μ H) (hS : va_S (gA base) s.heap H locs) (hl : lv_has ls 3 [(0, .ref (ad 1)), (1, .ref (ad (100 + 5))), (2, .int x2)]) : W p l e ({ frames := 0, cells := 0, slots := 0, locals := 0 } : Room) s m args below meth c H locs 0 0 (MQ below (gQ (some (.int (b2i RES))) gFull D cy ad base μ) args s 0 0 (gA base)) (F0 m 26 ls []) := by
  obtain ⟨hx, hb, hml, hown, hlocks, hr⟩ := id F
  unfold b_X4_isWord_5_26 at h
  refine lv_iload_n hx hb dX4_isWord_26 rfl (lv_at hl 2 rfl) ?_
  refine lv_aload_n hx hb dX4_isWord_27 rfl (lv_at hl 1 rfl) ?_
  refine g_stl hx hb E hS 5 (by decide) (n := 5) rfl (v := (5 : Int32)) (by decide) dX4_isWord_28 ?_
  refine lv_icmp_ge (tgt := 57) hx hb dX4_isWord_29 (by decide) (fun c3 => ?_) (fun c3 => ?_)
  · replace h := gif_t c3 h
    exact kx _ (Option.some.inj h).symm hM hS (lv_sub hl [] rfl)
  · replace h := gif_f c3 h
    refine lv_aload_n hx hb dX4_isWord_32 rfl (lv_at hl 0 rfl) ?_
    refine gg_1_0 hx hb hown E hM hk_1 kw_174 dX4_isWord_33 ?_
    refine lv_aload_n hx hb dX4_isWord_36 rfl (lv_at hl 0 rfl) ?_
    refine gg_1_3 hx hb hown E hM hk_1 kw_179 dX4_isWord_37 ?_
    refine lv_iload_n hx hb dX4_isWord_40 rfl (lv_at hl 2 rfl) ?_
    refine lv_iadd hx hb dX4_isWord_41 ?_
    obtain ⟨c4, h⟩ := gchk_e h
    refine g_bald hx hb E hM hk_2 dd_2 c4 dX4_isWord_42 ?_
    refine lv_aload_n hx hb dX4_isWord_43 rfl (lv_at hl 1 rfl) ?_
    refine lv_iload_n hx hb dX4_isWord_44 rfl (lv_at hl 2 rfl) ?_
    obtain ⟨c5, h⟩ := gchk_e h
    refine g_stc hx hb E hS 5 (n := 5) (by decide) rfl rfl c5 dX4_isWord_45 ?_
    refine lv_icmp_eq (tgt := 51) hx hb dX4_isWord_46 (by decide) (fun c6 => ?_) (fun c6 => ?_)
    · replace h := gif_t c6 h
      refine lv_iinc (v := (x2 + (1 : Int32))) (lv' := [(2, .int (x2 + (1 : Int32))), (0, .ref (ad 1)), (1, .ref (ad (100 + 5)))]) hx hb dX4_isWord_51 hl (k := 2) rfl rfl (by decide) rfl (fun ls hl => ?_)
      refine lv_goto (tgt := 26) hx hb dX4_isWord_54 (by decide) ?_
      exact kc _ (Option.some.inj h).symm hM hS (lv_sub hl [1, 2, 0] rfl)
    · replace h := gif_f c6 h
      refine lv_iconst (v := (0 : Int32)) hx hb dX4_isWord_49 (by decide) ?_
      obtain rfl := kr _ (Option.some.inj h).symm
      exact g_zret (v := b2i false) hx hb hr hlocks (b2i_nar false) hM hS dX4_isWord_50
set_option maxHeartbeats 4000000 in
theorem wl_X4_isWord_5_26 {p : Program} {l : Launch} {e : Env} {s : State} {m : MethodId} {args : Array Value} {below : List Frame} {meth : Method} {c : Code} {D : va_G} {cy : Nat → ClassId} {ad : Nat → Nat} {base : gBs}  {μ : gM} {r : (Unit) ⊕ (Bool)} {RES : Bool} (F : gF p s m meth c cX4_isWord RX4 3 (some .boolean)) (E : gEnv l D cy ad base s) (kx : ∀ (t : Unit) {H : Heap} {locs : List Loc} {ls : Array Slot}, r = .inl t → gW gFull D cy ad base μ H → va_S (gA base) s.heap H locs → lv_has ls 3 [] → W p l e ({ frames := 0, cells := 0, slots := 0, locals := 0 } : Room) s m args below meth c H locs 0 0 (MQ below (gQ (some (.int (b2i RES))) gFull D cy ad base μ) args s 0 0 (gA base)) (F0 m 57 ls [])) (kr : ∀ x : Bool, r = .inr x → x = RES) : ∀ (n : Nat) (x2 : Int32), gloop (fun t => b_X4_isWord_5_26  t μ) n x2 = some r → ∀ {H : Heap} {locs : List Loc} {ls : Array Slot}, gW gFull D cy ad base μ H → va_S (gA base) s.heap H locs → lv_has ls 3 [(0, .ref (ad 1)), (1, .ref (ad (100 + 5))), (2, .int x2)] → W p l e ({ frames := 0, cells := 0, slots := 0, locals := 0 } : Room) s m args below meth c H locs 0 0 (MQ below (gQ (some (.int (b2i RES))) gFull D cy ad base μ) args s 0 0 (gA base)) (F0 m 26 ls []) := by
  intro n
  induction n with
  | zero =>
    intro x2 h
    exact (gloop_0 h).elim
  | succ n ih =>
    intro x2 h H locs ls hM hS hl
    obtain ⟨o, h0, hc, hq⟩ := gloop_s h
    have h1 : b_X4_isWord_5_26 x2 μ = some o := h0
    exact wb_X4_isWord_5_26 h1 F E (fun t H locs ls ho hM hS hl => ih t (hc t ho) hM hS hl) (fun t H locs ls ho hM hS hl => kx t (hq _ ho).symm hM hS hl) (fun x ho => kr x (hq _ ho).symm) hM hS hl
def f_X4_isWord_5 (μ : gM) : Option (Bool) :=
  if ((gi μ 1 5) = (1 : Int32)) then if (((gi μ 1 4) - (gi μ 1 3)) = (5 : Int32)) then Option.bind (gloop (fun t => b_X4_isWord_5_26  t μ) gFuel (0 : Int32)) (fun q7 => Sum.elim (fun t8 => some true) (fun x => some x) q7) else some false else some false
set_option maxHeartbeats 4000000 in
set_option maxRecDepth 100000 in
theorem c_X4_isWord_5 {l : Launch} {D : va_G} {cy : Nat → ClassId} {ad : Nat → Nat} {base : gBs}  {μ : gM} {RES : Bool} (h : f_X4_isWord_5  μ = some RES) : Met l yX4_isWord [.code yX4_isWord cX4_isWord 3 (some .boolean)] ({ frames := 0, cells := 0, slots := 0, locals := 0 } : Room) (va_Pc [.ref (ad 1), .ref (ad (100 + 5))] (gB l gFull D cy ad base μ)) (gQ (some (.int (b2i RES))) gFull D cy ad base μ) 0 0 (gA base) := by
  refine Met.ofW (cc := cX4_isWord) (maxL := 3) (ret := (some .boolean)) (by decide) rfl ?_
  intro p e s m args below meth c s₁ B hml0 hv
  obtain ⟨rfl, E, hM⟩ := hv
  have F : gF p s m meth c cX4_isWord RX4 3 (some .boolean) := gF_of B hml0
  obtain ⟨hx, hb, hml, hown, hlocks, hr⟩ := id F
  have hS : va_S (gA base) s.heap s.heap [] := va_S.rf
  have hl := lv_entry ([.ref (ad 1), .ref (ad (100 + 5))]) (n := 3) (Nat.le_of_ble_eq_true rfl)
  rw [lg_entry_eq]
  generalize (lg_sl ([.ref (ad 1), .ref (ad (100 + 5))]) ++ List.replicate (3 - (lg_sl ([.ref (ad 1), .ref (ad (100 + 5))])).length) Slot.unset).toArray = ls at hl ⊢
  have hl : lv_has ls 3 [(0, .ref (ad 1)), (1, .ref (ad (100 + 5)))] := hl
  unfold f_X4_isWord_5 at h
  refine lv_aload_n hx hb dX4_isWord_0 rfl (lv_at hl 0 rfl) ?_
  refine gg_1_5 hx hb hown E hM hk_1 kw_181 dX4_isWord_1 ?_
  refine lv_iconst (v := (1 : Int32)) hx hb dX4_isWord_4 (by decide) ?_
  refine lv_icmp_ne (tgt := 22) hx hb dX4_isWord_5 (by decide) (fun c1 => ?_) (fun c1 => ?_)
  · replace h := gif_f c1 h
    refine lv_iconst (v := (0 : Int32)) hx hb dX4_isWord_22 (by decide) ?_
    obtain rfl := Option.some.inj h
    exact g_zret (v := b2i false) hx hb hr hlocks (b2i_nar false) hM hS dX4_isWord_23
  · replace h := gif_t c1 h
    refine lv_aload_n hx hb dX4_isWord_8 rfl (lv_at hl 0 rfl) ?_
    refine gg_1_4 hx hb hown E hM hk_1 kw_180 dX4_isWord_9 ?_
    refine lv_aload_n hx hb dX4_isWord_12 rfl (lv_at hl 0 rfl) ?_
    refine gg_1_3 hx hb hown E hM hk_1 kw_179 dX4_isWord_13 ?_
    refine lv_isub hx hb dX4_isWord_16 ?_
    refine lv_aload_n hx hb dX4_isWord_17 rfl (lv_at hl 1 rfl) ?_
    refine g_stl hx hb E hS 5 (by decide) (n := 5) rfl (v := (5 : Int32)) (by decide) dX4_isWord_18 ?_
    refine lv_icmp_eq (tgt := 24) hx hb dX4_isWord_19 (by decide) (fun c2 => ?_) (fun c2 => ?_)
    · replace h := gif_t c2 h
      refine lv_iconst (v := (0 : Int32)) hx hb dX4_isWord_24 (by decide) ?_
      refine lv_istore_n (lv' := [(2, .int (0 : Int32)), (0, .ref (ad 1)), (1, .ref (ad (100 + 5)))]) hx hb dX4_isWord_25 rfl hl (by decide) rfl (fun ls hl => ?_)
      obtain ⟨q7, h1, h⟩ := gbind_e h
      refine wl_X4_isWord_5_26 F E (r := q7) (fun t8 H locs ls e1 hM hS hl => ?_) (fun x ex => ?_) gFuel (0 : Int32) h1 hM hS (lv_sub hl [1, 2, 0] rfl)
      · replace h := gsum_l e1 h
        refine lv_iconst (v := (1 : Int32)) hx hb dX4_isWord_57 (by decide) ?_
        obtain rfl := Option.some.inj h
        exact g_zret (v := b2i true) hx hb hr hlocks (b2i_nar true) hM hS dX4_isWord_58
      · exact Option.some.inj (gsum_r ex h)
    · replace h := gif_f c2 h
      refine lv_iconst (v := (0 : Int32)) hx hb dX4_isWord_22 (by decide) ?_
      obtain rfl := Option.some.inj h
      exact g_zret (v := b2i false) hx hb hr hlocks (b2i_nar false) hM hS dX4_isWord_23
def b_X4_isWord_7_26 (x2 : Int32) (μ : gM) : Option ((Int32) ⊕ ((Unit) ⊕ (Bool))) :=
  if ((5 : Int32) ≤ x2) then some (.inr (.inl ())) else gchk (gIn ((gi μ 1 3) + x2) 1200) (gchk (gIn x2 5) (if ((gi μ 2 ((gi μ 1 3) + x2).toNatClampNeg) = (sc 7 x2.toNatClampNeg)) then some (.inl (x2 + (1 : Int32))) else some (.inr (.inr false))))
set_option maxHeartbeats 4000000 in
set_option maxRecDepth 100000 in
theorem wb_X4_isWord_7_26 {p : Program} {l : Launch} {e : Env} {s : State} {m : MethodId} {args : Array Value} {below : List Frame} {meth : Method} {c : Code} {D : va_G} {cy : Nat → ClassId} {ad : Nat → Nat} {base : gBs} {x2 : Int32} {μ : gM} {o : (Int32) ⊕ ((Unit) ⊕ (Bool))} {RES : Bool} (h : b_X4_isWord_7_26 x2 μ = some o) (F : gF p s m meth c cX4_isWord RX4 3 (some .boolean)) (E : gEnv l D cy ad base s) (kc : ∀ (t : Int32) {H : Heap} {locs : List Loc} {ls : Array Slot}, o = .inl t → gW gFull D cy ad base μ H → va_S (gA base) s.heap H locs → lv_has ls 3 [(0, .ref (ad 1)), (1, .ref (ad (100 + 7))), (2, .int t)] → W p l e ({ frames := 0, cells := 0, slots := 0, locals := 0 } : Room) s m args below meth c H locs 0 0 (MQ below (gQ (some (.int (b2i RES))) gFull D cy ad base μ) args s 0 0 (gA base)) (F0 m 26 ls [])) (kx : ∀ (t : Unit) {H : Heap} {locs : List Loc} {ls : Array Slot}, o = .inr (.inl t) → gW gFull D cy ad base μ H → va_S (gA base) s.heap H locs → lv_has ls 3 [] → W p l e ({ frames := 0, cells := 0, slots := 0, locals := 0 } : Room) s m args below meth c H locs 0 0 (MQ below (gQ (some (.int (b2i RES))) gFull D cy ad base μ) args s 0 0 (gA base)) (F0 m 57 ls [])) (kr : ∀ x : Bool, o = .inr (.inr x) → x = RES) {H : Heap} {locs : List Loc} {ls : Array Slot} (hM : gW gFull D cy ad base μ H) (hS : va_S (gA base) s.heap H locs) (hl : lv_has ls 3 [(0, .ref (ad 1)), (1, .ref (ad (100 + 7))), (2, .int x2)]) : W p l e ({ frames := 0, cells := 0, slots := 0, locals := 0 } : Room) s m args below meth c H locs 0 0 (MQ below (gQ (some (.int (b2i RES))) gFull D cy ad base μ) args s 0 0 (gA base)) (F0 m 26 ls []) := by
  obtain ⟨hx, hb, hml, hown, hlocks, hr⟩ := id F
  unfold b_X4_isWord_7_26 at h
  refine lv_iload_n hx hb dX4_isWord_26 rfl (lv_at hl 2 rfl) ?_
  refine lv_aload_n hx hb dX4_isWord_27 rfl (lv_at hl 1 rfl) ?_
  refine g_stl hx hb E hS 7 (by decide) (n := 5) rfl (v := (5 : Int32)) (by decide) dX4_isWord_28 ?_
  refine lv_icmp_ge (tgt := 57) hx hb dX4_isWord_29 (by decide) (fun c3 => ?_) (fun c3 => ?_)
  · replace h := gif_t c3 h
    exact kx _ (Option.some.inj h).symm hM hS (lv_sub hl [] rfl)
  · replace h := gif_f c3 h
    refine lv_aload_n hx hb dX4_isWord_32 rfl (lv_at hl 0 rfl) ?_
    refine gg_1_0 hx hb hown E hM hk_1 kw_174 dX4_isWord_33 ?_
    refine lv_aload_n hx hb dX4_isWord_36 rfl (lv_at hl 0 rfl) ?_
    refine gg_1_3 hx hb hown E hM hk_1 kw_179 dX4_isWord_37 ?_
    refine lv_iload_n hx hb dX4_isWord_40 rfl (lv_at hl 2 rfl) ?_
    refine lv_iadd hx hb dX4_isWord_41 ?_
    obtain ⟨c4, h⟩ := gchk_e h
    refine g_bald hx hb E hM hk_2 dd_2 c4 dX4_isWord_42 ?_
    refine lv_aload_n hx hb dX4_isWord_43 rfl (lv_at hl 1 rfl) ?_
    refine lv_iload_n hx hb dX4_isWord_44 rfl (lv_at hl 2 rfl) ?_
    obtain ⟨c5, h⟩ := gchk_e h
    refine g_stc hx hb E hS 7 (n := 5) (by decide) rfl rfl c5 dX4_isWord_45 ?_
    refine lv_icmp_eq (tgt := 51) hx hb dX4_isWord_46 (by decide) (fun c6 => ?_) (fun c6 => ?_)
    · replace h := gif_t c6 h
      refine lv_iinc (v := (x2 + (1 : Int32))) (lv' := [(2, .int (x2 + (1 : Int32))), (0, .ref (ad 1)), (1, .ref (ad (100 + 7)))]) hx hb dX4_isWord_51 hl (k := 2) rfl rfl (by decide) rfl (fun ls hl => ?_)
      refine lv_goto (tgt := 26) hx hb dX4_isWord_54 (by decide) ?_
      exact kc _ (Option.some.inj h).symm hM hS (lv_sub hl [1, 2, 0] rfl)
    · replace h := gif_f c6 h
      refine lv_iconst (v := (0 : Int32)) hx hb dX4_isWord_49 (by decide) ?_
      obtain rfl := kr _ (Option.some.inj h).symm
      exact g_zret (v := b2i false) hx hb hr hlocks (b2i_nar false) hM hS dX4_isWord_50
set_option maxHeartbeats 4000000 in
theorem wl_X4_isWord_7_26 {p : Program} {l : Launch} {e : Env} {s : State} {m : MethodId} {args : Array Value} {below : List Frame} {meth : Method} {c : Code} {D : va_G} {cy : Nat → ClassId} {ad : Nat → Nat} {base : gBs}  {μ : gM} {r : (Unit) ⊕ (Bool)} {RES : Bool} (F : gF p s m meth c cX4_isWord RX4 3 (some .boolean)) (E : gEnv l D cy ad base s) (kx : ∀ (t : Unit) {H : Heap} {locs : List Loc} {ls : Array Slot}, r = .inl t → gW gFull D cy ad base μ H → va_S (gA base) s.heap H locs → lv_has ls 3 [] → W p l e ({ frames := 0, cells := 0, slots := 0, locals := 0 } : Room) s m args below meth c H locs 0 0 (MQ below (gQ (some (.int (b2i RES))) gFull D cy ad base μ) args s 0 0 (gA base)) (F0 m 57 ls [])) (kr : ∀ x : Bool, r = .inr x → x = RES) : ∀ (n : Nat) (x2 : Int32), gloop (fun t => b_X4_isWord_7_26  t μ) n x2 = some r → ∀ {H : Heap} {locs : List Loc} {ls : Array Slot}, gW gFull D cy ad base μ H → va_S (gA base) s.heap H locs → lv_has ls 3 [(0, .ref (ad 1)), (1, .ref (ad (100 + 7))), (2, .int x2)] → W p l e ({ frames := 0, cells := 0, slots := 0, locals := 0 } : Room) s m args below meth c H locs 0 0 (MQ below (gQ (some (.int (b2i RES))) gFull D cy ad base μ) args s 0 0 (gA base)) (F0 m 26 ls []) := by
  intro n
  induction n with
  | zero =>
    intro x2 h
    exact (gloop_0 h).elim
  | succ n ih =>
    intro x2 h H locs ls hM hS hl
    obtain ⟨o, h0, hc, hq⟩ := gloop_s h
    have h1 : b_X4_isWord_7_26 x2 μ = some o := h0
    exact wb_X4_isWord_7_26 h1 F E (fun t H locs ls ho hM hS hl => ih t (hc t ho) hM hS hl) (fun t H locs ls ho hM hS hl => kx t (hq _ ho).symm hM hS hl) (fun x ho => kr x (hq _ ho).symm) hM hS hl
def f_X4_isWord_7 (μ : gM) : Option (Bool) :=
  if ((gi μ 1 5) = (1 : Int32)) then if (((gi μ 1 4) - (gi μ 1 3)) = (5 : Int32)) then Option.bind (gloop (fun t => b_X4_isWord_7_26  t μ) gFuel (0 : Int32)) (fun q7 => Sum.elim (fun t8 => some true) (fun x => some x) q7) else some false else some false
set_option maxHeartbeats 4000000 in
set_option maxRecDepth 100000 in
theorem c_X4_isWord_7 {l : Launch} {D : va_G} {cy : Nat → ClassId} {ad : Nat → Nat} {base : gBs}  {μ : gM} {RES : Bool} (h : f_X4_isWord_7  μ = some RES) : Met l yX4_isWord [.code yX4_isWord cX4_isWord 3 (some .boolean)] ({ frames := 0, cells := 0, slots := 0, locals := 0 } : Room) (va_Pc [.ref (ad 1), .ref (ad (100 + 7))] (gB l gFull D cy ad base μ)) (gQ (some (.int (b2i RES))) gFull D cy ad base μ) 0 0 (gA base) := by
  refine Met.ofW (cc := cX4_isWord) (maxL := 3) (ret := (some .boolean)) (by decide) rfl ?_
  intro p e s m args below meth c s₁ B hml0 hv
  obtain ⟨rfl, E, hM⟩ := hv
  have F : gF p s m meth c cX4_isWord RX4 3 (some .boolean) := gF_of B hml0
  obtain ⟨hx, hb, hml, hown, hlocks, hr⟩ := id F
  have hS : va_S (gA base) s.heap s.heap [] := va_S.rf
  have hl := lv_entry ([.ref (ad 1), .ref (ad (100 + 7))]) (n := 3) (Nat.le_of_ble_eq_true rfl)
  rw [lg_entry_eq]
  generalize (lg_sl ([.ref (ad 1), .ref (ad (100 + 7))]) ++ List.replicate (3 - (lg_sl ([.ref (ad 1), .ref (ad (100 + 7))])).length) Slot.unset).toArray = ls at hl ⊢
  have hl : lv_has ls 3 [(0, .ref (ad 1)), (1, .ref (ad (100 + 7)))] := hl
  unfold f_X4_isWord_7 at h
  refine lv_aload_n hx hb dX4_isWord_0 rfl (lv_at hl 0 rfl) ?_
  refine gg_1_5 hx hb hown E hM hk_1 kw_181 dX4_isWord_1 ?_
  refine lv_iconst (v := (1 : Int32)) hx hb dX4_isWord_4 (by decide) ?_
  refine lv_icmp_ne (tgt := 22) hx hb dX4_isWord_5 (by decide) (fun c1 => ?_) (fun c1 => ?_)
  · replace h := gif_f c1 h
    refine lv_iconst (v := (0 : Int32)) hx hb dX4_isWord_22 (by decide) ?_
    obtain rfl := Option.some.inj h
    exact g_zret (v := b2i false) hx hb hr hlocks (b2i_nar false) hM hS dX4_isWord_23
  · replace h := gif_t c1 h
    refine lv_aload_n hx hb dX4_isWord_8 rfl (lv_at hl 0 rfl) ?_
    refine gg_1_4 hx hb hown E hM hk_1 kw_180 dX4_isWord_9 ?_
    refine lv_aload_n hx hb dX4_isWord_12 rfl (lv_at hl 0 rfl) ?_
    refine gg_1_3 hx hb hown E hM hk_1 kw_179 dX4_isWord_13 ?_
    refine lv_isub hx hb dX4_isWord_16 ?_
    refine lv_aload_n hx hb dX4_isWord_17 rfl (lv_at hl 1 rfl) ?_
    refine g_stl hx hb E hS 7 (by decide) (n := 5) rfl (v := (5 : Int32)) (by decide) dX4_isWord_18 ?_
    refine lv_icmp_eq (tgt := 24) hx hb dX4_isWord_19 (by decide) (fun c2 => ?_) (fun c2 => ?_)
    · replace h := gif_t c2 h
      refine lv_iconst (v := (0 : Int32)) hx hb dX4_isWord_24 (by decide) ?_
      refine lv_istore_n (lv' := [(2, .int (0 : Int32)), (0, .ref (ad 1)), (1, .ref (ad (100 + 7)))]) hx hb dX4_isWord_25 rfl hl (by decide) rfl (fun ls hl => ?_)
      obtain ⟨q7, h1, h⟩ := gbind_e h
      refine wl_X4_isWord_7_26 F E (r := q7) (fun t8 H locs ls e1 hM hS hl => ?_) (fun x ex => ?_) gFuel (0 : Int32) h1 hM hS (lv_sub hl [1, 2, 0] rfl)
      · replace h := gsum_l e1 h
        refine lv_iconst (v := (1 : Int32)) hx hb dX4_isWord_57 (by decide) ?_
        obtain rfl := Option.some.inj h
        exact g_zret (v := b2i true) hx hb hr hlocks (b2i_nar true) hM hS dX4_isWord_58
      · exact Option.some.inj (gsum_r ex h)
    · replace h := gif_f c2 h
      refine lv_iconst (v := (0 : Int32)) hx hb dX4_isWord_22 (by decide) ?_
      obtain rfl := Option.some.inj h
      exact g_zret (v := b2i false) hx hb hr hlocks (b2i_nar false) hM hS dX4_isWord_23
def b_X4_isWord_8_26 (x2 : Int32) (μ : gM) : Option ((Int32) ⊕ ((Unit) ⊕ (Bool))) :=
  if ((4 : Int32) ≤ x2) then some (.inr (.inl ())) else gchk (gIn ((gi μ 1 3) + x2) 1200) (gchk (gIn x2 4) (if ((gi μ 2 ((gi μ 1 3) + x2).toNatClampNeg) = (sc 8 x2.toNatClampNeg)) then some (.inl (x2 + (1 : Int32))) else some (.inr (.inr false))))
set_option maxHeartbeats 4000000 in
set_option maxRecDepth 100000 in
theorem wb_X4_isWord_8_26 {p : Program} {l : Launch} {e : Env} {s : State} {m : MethodId} {args : Array Value} {below : List Frame} {meth : Method} {c : Code} {D : va_G} {cy : Nat → ClassId} {ad : Nat → Nat} {base : gBs} {x2 : Int32} {μ : gM} {o : (Int32) ⊕ ((Unit) ⊕ (Bool))} {RES : Bool} (h : b_X4_isWord_8_26 x2 μ = some o) (F : gF p s m meth c cX4_isWord RX4 3 (some .boolean)) (E : gEnv l D cy ad base s) (kc : ∀ (t : Int32) {H : Heap} {locs : List Loc} {ls : Array Slot}, o = .inl t → gW gFull D cy ad base μ H → va_S (gA base) s.heap H locs → lv_has ls 3 [(0, .ref (ad 1)), (1, .ref (ad (100 + 8))), (2, .int t)] → W p l e ({ frames := 0, cells := 0, slots := 0, locals := 0 } : Room) s m args below meth c H locs 0 0 (MQ below (gQ (some (.int (b2i RES))) gFull D cy ad base μ) args s 0 0 (gA base)) (F0 m 26 ls [])) (kx : ∀ (t : Unit) {H : Heap} {locs : List Loc} {ls : Array Slot}, o = .inr (.inl t) → gW gFull D cy ad base μ H → va_S (gA base) s.heap H locs → lv_has ls 3 [] → W p l e ({ frames := 0, cells := 0, slots := 0, locals := 0 } : Room) s m args below meth c H locs 0 0 (MQ below (gQ (some (.int (b2i RES))) gFull D cy ad base μ) args s 0 0 (gA base)) (F0 m 57 ls [])) (kr : ∀ x : Bool, o = .inr (.inr x) → x = RES) {H : Heap} {locs : List Loc} {ls : Array Slot} (hM : gW gFull D cy ad base μ H) (hS : va_S (gA base) s.heap H locs) (hl : lv_has ls 3 [(0, .ref (ad 1)), (1, .ref (ad (100 + 8))), (2, .int x2)]) : W p l e ({ frames := 0, cells := 0, slots := 0, locals := 0 } : Room) s m args below meth c H locs 0 0 (MQ below (gQ (some (.int (b2i RES))) gFull D cy ad base μ) args s 0 0 (gA base)) (F0 m 26 ls []) := by
  obtain ⟨hx, hb, hml, hown, hlocks, hr⟩ := id F
  unfold b_X4_isWord_8_26 at h
  refine lv_iload_n hx hb dX4_isWord_26 rfl (lv_at hl 2 rfl) ?_
  refine lv_aload_n hx hb dX4_isWord_27 rfl (lv_at hl 1 rfl) ?_
  refine g_stl hx hb E hS 8 (by decide) (n := 4) rfl (v := (4 : Int32)) (by decide) dX4_isWord_28 ?_
  refine lv_icmp_ge (tgt := 57) hx hb dX4_isWord_29 (by decide) (fun c3 => ?_) (fun c3 => ?_)
  · replace h := gif_t c3 h
    exact kx _ (Option.some.inj h).symm hM hS (lv_sub hl [] rfl)
  · replace h := gif_f c3 h
    refine lv_aload_n hx hb dX4_isWord_32 rfl (lv_at hl 0 rfl) ?_
    refine gg_1_0 hx hb hown E hM hk_1 kw_174 dX4_isWord_33 ?_
    refine lv_aload_n hx hb dX4_isWord_36 rfl (lv_at hl 0 rfl) ?_
    refine gg_1_3 hx hb hown E hM hk_1 kw_179 dX4_isWord_37 ?_
    refine lv_iload_n hx hb dX4_isWord_40 rfl (lv_at hl 2 rfl) ?_
    refine lv_iadd hx hb dX4_isWord_41 ?_
    obtain ⟨c4, h⟩ := gchk_e h
    refine g_bald hx hb E hM hk_2 dd_2 c4 dX4_isWord_42 ?_
    refine lv_aload_n hx hb dX4_isWord_43 rfl (lv_at hl 1 rfl) ?_
    refine lv_iload_n hx hb dX4_isWord_44 rfl (lv_at hl 2 rfl) ?_
    obtain ⟨c5, h⟩ := gchk_e h
    refine g_stc hx hb E hS 8 (n := 4) (by decide) rfl rfl c5 dX4_isWord_45 ?_
    refine lv_icmp_eq (tgt := 51) hx hb dX4_isWord_46 (by decide) (fun c6 => ?_) (fun c6 => ?_)
    · replace h := gif_t c6 h
      refine lv_iinc (v := (x2 + (1 : Int32))) (lv' := [(2, .int (x2 + (1 : Int32))), (0, .ref (ad 1)), (1, .ref (ad (100 + 8)))]) hx hb dX4_isWord_51 hl (k := 2) rfl rfl (by decide) rfl (fun ls hl => ?_)
      refine lv_goto (tgt := 26) hx hb dX4_isWord_54 (by decide) ?_
      exact kc _ (Option.some.inj h).symm hM hS (lv_sub hl [1, 2, 0] rfl)
    · replace h := gif_f c6 h
      refine lv_iconst (v := (0 : Int32)) hx hb dX4_isWord_49 (by decide) ?_
      obtain rfl := kr _ (Option.some.inj h).symm
      exact g_zret (v := b2i false) hx hb hr hlocks (b2i_nar false) hM hS dX4_isWord_50
set_option maxHeartbeats 4000000 in
theorem wl_X4_isWord_8_26 {p : Program} {l : Launch} {e : Env} {s : State} {m : MethodId} {args : Array Value} {below : List Frame} {meth : Method} {c : Code} {D : va_G} {cy : Nat → ClassId} {ad : Nat → Nat} {base : gBs}  {μ : gM} {r : (Unit) ⊕ (Bool)} {RES : Bool} (F : gF p s m meth c cX4_isWord RX4 3 (some .boolean)) (E : gEnv l D cy ad base s) (kx : ∀ (t : Unit) {H : Heap} {locs : List Loc} {ls : Array Slot}, r = .inl t → gW gFull D cy ad base μ H → va_S (gA base) s.heap H locs → lv_has ls 3 [] → W p l e ({ frames := 0, cells := 0, slots := 0, locals := 0 } : Room) s m args below meth c H locs 0 0 (MQ below (gQ (some (.int (b2i RES))) gFull D cy ad base μ) args s 0 0 (gA base)) (F0 m 57 ls [])) (kr : ∀ x : Bool, r = .inr x → x = RES) : ∀ (n : Nat) (x2 : Int32), gloop (fun t => b_X4_isWord_8_26  t μ) n x2 = some r → ∀ {H : Heap} {locs : List Loc} {ls : Array Slot}, gW gFull D cy ad base μ H → va_S (gA base) s.heap H locs → lv_has ls 3 [(0, .ref (ad 1)), (1, .ref (ad (100 + 8))), (2, .int x2)] → W p l e ({ frames := 0, cells := 0, slots := 0, locals := 0 } : Room) s m args below meth c H locs 0 0 (MQ below (gQ (some (.int (b2i RES))) gFull D cy ad base μ) args s 0 0 (gA base)) (F0 m 26 ls []) := by
  intro n
  induction n with
  | zero =>
    intro x2 h
    exact (gloop_0 h).elim
  | succ n ih =>
    intro x2 h H locs ls hM hS hl
    obtain ⟨o, h0, hc, hq⟩ := gloop_s h
    have h1 : b_X4_isWord_8_26 x2 μ = some o := h0
    exact wb_X4_isWord_8_26 h1 F E (fun t H locs ls ho hM hS hl => ih t (hc t ho) hM hS hl) (fun t H locs ls ho hM hS hl => kx t (hq _ ho).symm hM hS hl) (fun x ho => kr x (hq _ ho).symm) hM hS hl
def f_X4_isWord_8 (μ : gM) : Option (Bool) :=
  if ((gi μ 1 5) = (1 : Int32)) then if (((gi μ 1 4) - (gi μ 1 3)) = (4 : Int32)) then Option.bind (gloop (fun t => b_X4_isWord_8_26  t μ) gFuel (0 : Int32)) (fun q7 => Sum.elim (fun t8 => some true) (fun x => some x) q7) else some false else some false
set_option maxHeartbeats 4000000 in
set_option maxRecDepth 100000 in
theorem c_X4_isWord_8 {l : Launch} {D : va_G} {cy : Nat → ClassId} {ad : Nat → Nat} {base : gBs}  {μ : gM} {RES : Bool} (h : f_X4_isWord_8  μ = some RES) : Met l yX4_isWord [.code yX4_isWord cX4_isWord 3 (some .boolean)] ({ frames := 0, cells := 0, slots := 0, locals := 0 } : Room) (va_Pc [.ref (ad 1), .ref (ad (100 + 8))] (gB l gFull D cy ad base μ)) (gQ (some (.int (b2i RES))) gFull D cy ad base μ) 0 0 (gA base) := by
  refine Met.ofW (cc := cX4_isWord) (maxL := 3) (ret := (some .boolean)) (by decide) rfl ?_
  intro p e s m args below meth c s₁ B hml0 hv
  obtain ⟨rfl, E, hM⟩ := hv
  have F : gF p s m meth c cX4_isWord RX4 3 (some .boolean) := gF_of B hml0
  obtain ⟨hx, hb, hml, hown, hlocks, hr⟩ := id F
  have hS : va_S (gA base) s.heap s.heap [] := va_S.rf
  have hl := lv_entry ([.ref (ad 1), .ref (ad (100 + 8))]) (n := 3) (Nat.le_of_ble_eq_true rfl)
  rw [lg_entry_eq]
  generalize (lg_sl ([.ref (ad 1), .ref (ad (100 + 8))]) ++ List.replicate (3 - (lg_sl ([.ref (ad 1), .ref (ad (100 + 8))])).length) Slot.unset).toArray = ls at hl ⊢
  have hl : lv_has ls 3 [(0, .ref (ad 1)), (1, .ref (ad (100 + 8)))] := hl
  unfold f_X4_isWord_8 at h
  refine lv_aload_n hx hb dX4_isWord_0 rfl (lv_at hl 0 rfl) ?_
  refine gg_1_5 hx hb hown E hM hk_1 kw_181 dX4_isWord_1 ?_
  refine lv_iconst (v := (1 : Int32)) hx hb dX4_isWord_4 (by decide) ?_
  refine lv_icmp_ne (tgt := 22) hx hb dX4_isWord_5 (by decide) (fun c1 => ?_) (fun c1 => ?_)
  · replace h := gif_f c1 h
    refine lv_iconst (v := (0 : Int32)) hx hb dX4_isWord_22 (by decide) ?_
    obtain rfl := Option.some.inj h
    exact g_zret (v := b2i false) hx hb hr hlocks (b2i_nar false) hM hS dX4_isWord_23
  · replace h := gif_t c1 h
    refine lv_aload_n hx hb dX4_isWord_8 rfl (lv_at hl 0 rfl) ?_
    refine gg_1_4 hx hb hown E hM hk_1 kw_180 dX4_isWord_9 ?_
    refine lv_aload_n hx hb dX4_isWord_12 rfl (lv_at hl 0 rfl) ?_
    refine gg_1_3 hx hb hown E hM hk_1 kw_179 dX4_isWord_13 ?_
    refine lv_isub hx hb dX4_isWord_16 ?_
    refine lv_aload_n hx hb dX4_isWord_17 rfl (lv_at hl 1 rfl) ?_
    refine g_stl hx hb E hS 8 (by decide) (n := 4) rfl (v := (4 : Int32)) (by decide) dX4_isWord_18 ?_
    refine lv_icmp_eq (tgt := 24) hx hb dX4_isWord_19 (by decide) (fun c2 => ?_) (fun c2 => ?_)
    · replace h := gif_t c2 h
      refine lv_iconst (v := (0 : Int32)) hx hb dX4_isWord_24 (by decide) ?_
      refine lv_istore_n (lv' := [(2, .int (0 : Int32)), (0, .ref (ad 1)), (1, .ref (ad (100 + 8)))]) hx hb dX4_isWord_25 rfl hl (by decide) rfl (fun ls hl => ?_)
      obtain ⟨q7, h1, h⟩ := gbind_e h
      refine wl_X4_isWord_8_26 F E (r := q7) (fun t8 H locs ls e1 hM hS hl => ?_) (fun x ex => ?_) gFuel (0 : Int32) h1 hM hS (lv_sub hl [1, 2, 0] rfl)
      · replace h := gsum_l e1 h
        refine lv_iconst (v := (1 : Int32)) hx hb dX4_isWord_57 (by decide) ?_
        obtain rfl := Option.some.inj h
        exact g_zret (v := b2i true) hx hb hr hlocks (b2i_nar true) hM hS dX4_isWord_58
      · exact Option.some.inj (gsum_r ex h)
    · replace h := gif_f c2 h
      refine lv_iconst (v := (0 : Int32)) hx hb dX4_isWord_22 (by decide) ?_
      obtain rfl := Option.some.inj h
      exact g_zret (v := b2i false) hx hb hr hlocks (b2i_nar false) hM hS dX4_isWord_23
def b_X4_isWord_9_26 (x2 : Int32) (μ : gM) : Option ((Int32) ⊕ ((Unit) ⊕ (Bool))) :=
  if ((4 : Int32) ≤ x2) then some (.inr (.inl ())) else gchk (gIn ((gi μ 1 3) + x2) 1200) (gchk (gIn x2 4) (if ((gi μ 2 ((gi μ 1 3) + x2).toNatClampNeg) = (sc 9 x2.toNatClampNeg)) then some (.inl (x2 + (1 : Int32))) else some (.inr (.inr false))))
set_option maxHeartbeats 4000000 in
set_option maxRecDepth 100000 in
theorem wb_X4_isWord_9_26 {p : Program} {l : Launch} {e : Env} {s : State} {m : MethodId} {args : Array Value} {below : List Frame} {meth : Method} {c : Code} {D : va_G} {cy : Nat → ClassId} {ad : Nat → Nat} {base : gBs} {x2 : Int32} {μ : gM} {o : (Int32) ⊕ ((Unit) ⊕ (Bool))} {RES : Bool} (h : b_X4_isWord_9_26 x2 μ = some o) (F : gF p s m meth c cX4_isWord RX4 3 (some .boolean)) (E : gEnv l D cy ad base s) (kc : ∀ (t : Int32) {H : Heap} {locs : List Loc} {ls : Array Slot}, o = .inl t → gW gFull D cy ad base μ H → va_S (gA base) s.heap H locs → lv_has ls 3 [(0, .ref (ad 1)), (1, .ref (ad (100 + 9))), (2, .int t)] → W p l e ({ frames := 0, cells := 0, slots := 0, locals := 0 } : Room) s m args below meth c H locs 0 0 (MQ below (gQ (some (.int (b2i RES))) gFull D cy ad base μ) args s 0 0 (gA base)) (F0 m 26 ls [])) (kx : ∀ (t : Unit) {H : Heap} {locs : List Loc} {ls : Array Slot}, o = .inr (.inl t) → gW gFull D cy ad base μ H → va_S (gA base) s.heap H locs → lv_has ls 3 [] → W p l e ({ frames := 0, cells := 0, slots := 0, locals := 0 } : Room) s m args below meth c H locs 0 0 (MQ below (gQ (some (.int (b2i RES))) gFull D cy ad base μ) args s 0 0 (gA base)) (F0 m 57 ls [])) (kr : ∀ x : Bool, o = .inr (.inr x) → x = RES) {H : Heap} {locs : List Loc} {ls : Array Slot} (hM : gW gFull D cy ad base μ H) (hS : va_S (gA base) s.heap H locs) (hl : lv_has ls 3 [(0, .ref (ad 1)), (1, .ref (ad (100 + 9))), (2, .int x2)]) : W p l e ({ frames := 0, cells := 0, slots := 0, locals := 0 } : Room) s m args below meth c H locs 0 0 (MQ below (gQ (some (.int (b2i RES))) gFull D cy ad base μ) args s 0 0 (gA base)) (F0 m 26 ls []) := by
  obtain ⟨hx, hb, hml, hown, hlocks, hr⟩ := id F
  unfold b_X4_isWord_9_26 at h
  refine lv_iload_n hx hb dX4_isWord_26 rfl (lv_at hl 2 rfl) ?_
  refine lv_aload_n hx hb dX4_isWord_27 rfl (lv_at hl 1 rfl) ?_
  refine g_stl hx hb E hS 9 (by decide) (n := 4) rfl (v := (4 : Int32)) (by decide) dX4_isWord_28 ?_
  refine lv_icmp_ge (tgt := 57) hx hb dX4_isWord_29 (by decide) (fun c3 => ?_) (fun c3 => ?_)
  · replace h := gif_t c3 h
    exact kx _ (Option.some.inj h).symm hM hS (lv_sub hl [] rfl)
  · replace h := gif_f c3 h
    refine lv_aload_n hx hb dX4_isWord_32 rfl (lv_at hl 0 rfl) ?_
    refine gg_1_0 hx hb hown E hM hk_1 kw_174 dX4_isWord_33 ?_
    refine lv_aload_n hx hb dX4_isWord_36 rfl (lv_at hl 0 rfl) ?_
    refine gg_1_3 hx hb hown E hM hk_1 kw_179 dX4_isWord_37 ?_
    refine lv_iload_n hx hb dX4_isWord_40 rfl (lv_at hl 2 rfl) ?_
    refine lv_iadd hx hb dX4_isWord_41 ?_
    obtain ⟨c4, h⟩ := gchk_e h
    refine g_bald hx hb E hM hk_2 dd_2 c4 dX4_isWord_42 ?_
    refine lv_aload_n hx hb dX4_isWord_43 rfl (lv_at hl 1 rfl) ?_
    refine lv_iload_n hx hb dX4_isWord_44 rfl (lv_at hl 2 rfl) ?_
    obtain ⟨c5, h⟩ := gchk_e h
    refine g_stc hx hb E hS 9 (n := 4) (by decide) rfl rfl c5 dX4_isWord_45 ?_
    refine lv_icmp_eq (tgt := 51) hx hb dX4_isWord_46 (by decide) (fun c6 => ?_) (fun c6 => ?_)
    · replace h := gif_t c6 h
      refine lv_iinc (v := (x2 + (1 : Int32))) (lv' := [(2, .int (x2 + (1 : Int32))), (0, .ref (ad 1)), (1, .ref (ad (100 + 9)))]) hx hb dX4_isWord_51 hl (k := 2) rfl rfl (by decide) rfl (fun ls hl => ?_)
      refine lv_goto (tgt := 26) hx hb dX4_isWord_54 (by decide) ?_
      exact kc _ (Option.some.inj h).symm hM hS (lv_sub hl [1, 2, 0] rfl)
    · replace h := gif_f c6 h
      refine lv_iconst (v := (0 : Int32)) hx hb dX4_isWord_49 (by decide) ?_
      obtain rfl := kr _ (Option.some.inj h).symm
      exact g_zret (v := b2i false) hx hb hr hlocks (b2i_nar false) hM hS dX4_isWord_50
set_option maxHeartbeats 4000000 in
theorem wl_X4_isWord_9_26 {p : Program} {l : Launch} {e : Env} {s : State} {m : MethodId} {args : Array Value} {below : List Frame} {meth : Method} {c : Code} {D : va_G} {cy : Nat → ClassId} {ad : Nat → Nat} {base : gBs}  {μ : gM} {r : (Unit) ⊕ (Bool)} {RES : Bool} (F : gF p s m meth c cX4_isWord RX4 3 (some .boolean)) (E : gEnv l D cy ad base s) (kx : ∀ (t : Unit) {H : Heap} {locs : List Loc} {ls : Array Slot}, r = .inl t → gW gFull D cy ad base μ H → va_S (gA base) s.heap H locs → lv_has ls 3 [] → W p l e ({ frames := 0, cells := 0, slots := 0, locals := 0 } : Room) s m args below meth c H locs 0 0 (MQ below (gQ (some (.int (b2i RES))) gFull D cy ad base μ) args s 0 0 (gA base)) (F0 m 57 ls [])) (kr : ∀ x : Bool, r = .inr x → x = RES) : ∀ (n : Nat) (x2 : Int32), gloop (fun t => b_X4_isWord_9_26  t μ) n x2 = some r → ∀ {H : Heap} {locs : List Loc} {ls : Array Slot}, gW gFull D cy ad base μ H → va_S (gA base) s.heap H locs → lv_has ls 3 [(0, .ref (ad 1)), (1, .ref (ad (100 + 9))), (2, .int x2)] → W p l e ({ frames := 0, cells := 0, slots := 0, locals := 0 } : Room) s m args below meth c H locs 0 0 (MQ below (gQ (some (.int (b2i RES))) gFull D cy ad base μ) args s 0 0 (gA base)) (F0 m 26 ls []) := by
  intro n
  induction n with
  | zero =>
    intro x2 h
    exact (gloop_0 h).elim
  | succ n ih =>
    intro x2 h H locs ls hM hS hl
    obtain ⟨o, h0, hc, hq⟩ := gloop_s h
    have h1 : b_X4_isWord_9_26 x2 μ = some o := h0
    exact wb_X4_isWord_9_26 h1 F E (fun t H locs ls ho hM hS hl => ih t (hc t ho) hM hS hl) (fun t H locs ls ho hM hS hl => kx t (hq _ ho).symm hM hS hl) (fun x ho => kr x (hq _ ho).symm) hM hS hl
def f_X4_isWord_9 (μ : gM) : Option (Bool) :=
  if ((gi μ 1 5) = (1 : Int32)) then if (((gi μ 1 4) - (gi μ 1 3)) = (4 : Int32)) then Option.bind (gloop (fun t => b_X4_isWord_9_26  t μ) gFuel (0 : Int32)) (fun q7 => Sum.elim (fun t8 => some true) (fun x => some x) q7) else some false else some false
set_option maxHeartbeats 4000000 in
set_option maxRecDepth 100000 in
theorem c_X4_isWord_9 {l : Launch} {D : va_G} {cy : Nat → ClassId} {ad : Nat → Nat} {base : gBs}  {μ : gM} {RES : Bool} (h : f_X4_isWord_9  μ = some RES) : Met l yX4_isWord [.code yX4_isWord cX4_isWord 3 (some .boolean)] ({ frames := 0, cells := 0, slots := 0, locals := 0 } : Room) (va_Pc [.ref (ad 1), .ref (ad (100 + 9))] (gB l gFull D cy ad base μ)) (gQ (some (.int (b2i RES))) gFull D cy ad base μ) 0 0 (gA base) := by
  refine Met.ofW (cc := cX4_isWord) (maxL := 3) (ret := (some .boolean)) (by decide) rfl ?_
  intro p e s m args below meth c s₁ B hml0 hv
  obtain ⟨rfl, E, hM⟩ := hv
  have F : gF p s m meth c cX4_isWord RX4 3 (some .boolean) := gF_of B hml0
  obtain ⟨hx, hb, hml, hown, hlocks, hr⟩ := id F
  have hS : va_S (gA base) s.heap s.heap [] := va_S.rf
  have hl := lv_entry ([.ref (ad 1), .ref (ad (100 + 9))]) (n := 3) (Nat.le_of_ble_eq_true rfl)
  rw [lg_entry_eq]
  generalize (lg_sl ([.ref (ad 1), .ref (ad (100 + 9))]) ++ List.replicate (3 - (lg_sl ([.ref (ad 1), .ref (ad (100 + 9))])).length) Slot.unset).toArray = ls at hl ⊢
  have hl : lv_has ls 3 [(0, .ref (ad 1)), (1, .ref (ad (100 + 9)))] := hl
  unfold f_X4_isWord_9 at h
  refine lv_aload_n hx hb dX4_isWord_0 rfl (lv_at hl 0 rfl) ?_
  refine gg_1_5 hx hb hown E hM hk_1 kw_181 dX4_isWord_1 ?_
  refine lv_iconst (v := (1 : Int32)) hx hb dX4_isWord_4 (by decide) ?_
  refine lv_icmp_ne (tgt := 22) hx hb dX4_isWord_5 (by decide) (fun c1 => ?_) (fun c1 => ?_)
  · replace h := gif_f c1 h
    refine lv_iconst (v := (0 : Int32)) hx hb dX4_isWord_22 (by decide) ?_
    obtain rfl := Option.some.inj h
    exact g_zret (v := b2i false) hx hb hr hlocks (b2i_nar false) hM hS dX4_isWord_23
  · replace h := gif_t c1 h
    refine lv_aload_n hx hb dX4_isWord_8 rfl (lv_at hl 0 rfl) ?_
    refine gg_1_4 hx hb hown E hM hk_1 kw_180 dX4_isWord_9 ?_
    refine lv_aload_n hx hb dX4_isWord_12 rfl (lv_at hl 0 rfl) ?_
    refine gg_1_3 hx hb hown E hM hk_1 kw_179 dX4_isWord_13 ?_
    refine lv_isub hx hb dX4_isWord_16 ?_
    refine lv_aload_n hx hb dX4_isWord_17 rfl (lv_at hl 1 rfl) ?_
    refine g_stl hx hb E hS 9 (by decide) (n := 4) rfl (v := (4 : Int32)) (by decide) dX4_isWord_18 ?_
    refine lv_icmp_eq (tgt := 24) hx hb dX4_isWord_19 (by decide) (fun c2 => ?_) (fun c2 => ?_)
    · replace h := gif_t c2 h
      refine lv_iconst (v := (0 : Int32)) hx hb dX4_isWord_24 (by decide) ?_
      refine lv_istore_n (lv' := [(2, .int (0 : Int32)), (0, .ref (ad 1)), (1, .ref (ad (100 + 9)))]) hx hb dX4_isWord_25 rfl hl (by decide) rfl (fun ls hl => ?_)
      obtain ⟨q7, h1, h⟩ := gbind_e h
      refine wl_X4_isWord_9_26 F E (r := q7) (fun t8 H locs ls e1 hM hS hl => ?_) (fun x ex => ?_) gFuel (0 : Int32) h1 hM hS (lv_sub hl [1, 2, 0] rfl)
      · replace h := gsum_l e1 h
        refine lv_iconst (v := (1 : Int32)) hx hb dX4_isWord_57 (by decide) ?_
        obtain rfl := Option.some.inj h
        exact g_zret (v := b2i true) hx hb hr hlocks (b2i_nar true) hM hS dX4_isWord_58
      · exact Option.some.inj (gsum_r ex h)
    · replace h := gif_f c2 h
      refine lv_iconst (v := (0 : Int32)) hx hb dX4_isWord_22 (by decide) ?_
      obtain rfl := Option.some.inj h
      exact g_zret (v := b2i false) hx hb hr hlocks (b2i_nar false) hM hS dX4_isWord_23
def b_X4_isWord_10_26 (x2 : Int32) (μ : gM) : Option ((Int32) ⊕ ((Unit) ⊕ (Bool))) :=
  if ((3 : Int32) ≤ x2) then some (.inr (.inl ())) else gchk (gIn ((gi μ 1 3) + x2) 1200) (gchk (gIn x2 3) (if ((gi μ 2 ((gi μ 1 3) + x2).toNatClampNeg) = (sc 10 x2.toNatClampNeg)) then some (.inl (x2 + (1 : Int32))) else some (.inr (.inr false))))
set_option maxHeartbeats 4000000 in
set_option maxRecDepth 100000 in
theorem wb_X4_isWord_10_26 {p : Program} {l : Launch} {e : Env} {s : State} {m : MethodId} {args : Array Value} {below : List Frame} {meth : Method} {c : Code} {D : va_G} {cy : Nat → ClassId} {ad : Nat → Nat} {base : gBs} {x2 : Int32} {μ : gM} {o : (Int32) ⊕ ((Unit) ⊕ (Bool))} {RES : Bool} (h : b_X4_isWord_10_26 x2 μ = some o) (F : gF p s m meth c cX4_isWord RX4 3 (some .boolean)) (E : gEnv l D cy ad base s) (kc : ∀ (t : Int32) {H : Heap} {locs : List Loc} {ls : Array Slot}, o = .inl t → gW gFull D cy ad base μ H → va_S (gA base) s.heap H locs → lv_has ls 3 [(0, .ref (ad 1)), (1, .ref (ad (100 + 10))), (2, .int t)] → W p l e ({ frames := 0, cells := 0, slots := 0, locals := 0 } : Room) s m args below meth c H locs 0 0 (MQ below (gQ (some (.int (b2i RES))) gFull D cy ad base μ) args s 0 0 (gA base)) (F0 m 26 ls [])) (kx : ∀ (t : Unit) {H : Heap} {locs : List Loc} {ls : Array Slot}, o = .inr (.inl t) → gW gFull D cy ad base μ H → va_S (gA base) s.heap H locs → lv_has ls 3 [] → W p l e ({ frames := 0, cells := 0, slots := 0, locals := 0 } : Room) s m args below meth c H locs 0 0 (MQ below (gQ (some (.int (b2i RES))) gFull D cy ad base μ) args s 0 0 (gA base)) (F0 m 57 ls [])) (kr : ∀ x : Bool, o = .inr (.inr x) → x = RES) {H : Heap} {locs : List Loc} {ls : Array Slot} (hM : gW gFull D cy ad base μ H) (hS : va_S (gA base) s.heap H locs) (hl : lv_has ls 3 [(0, .ref (ad 1)), (1, .ref (ad (100 + 10))), (2, .int x2)]) : W p l e ({ frames := 0, cells := 0, slots := 0, locals := 0 } : Room) s m args below meth c H locs 0 0 (MQ below (gQ (some (.int (b2i RES))) gFull D cy ad base μ) args s 0 0 (gA base)) (F0 m 26 ls []) := by
  obtain ⟨hx, hb, hml, hown, hlocks, hr⟩ := id F
  unfold b_X4_isWord_10_26 at h
  refine lv_iload_n hx hb dX4_isWord_26 rfl (lv_at hl 2 rfl) ?_
  refine lv_aload_n hx hb dX4_isWord_27 rfl (lv_at hl 1 rfl) ?_
  refine g_stl hx hb E hS 10 (by decide) (n := 3) rfl (v := (3 : Int32)) (by decide) dX4_isWord_28 ?_
  refine lv_icmp_ge (tgt := 57) hx hb dX4_isWord_29 (by decide) (fun c3 => ?_) (fun c3 => ?_)
  · replace h := gif_t c3 h
    exact kx _ (Option.some.inj h).symm hM hS (lv_sub hl [] rfl)
  · replace h := gif_f c3 h
    refine lv_aload_n hx hb dX4_isWord_32 rfl (lv_at hl 0 rfl) ?_
    refine gg_1_0 hx hb hown E hM hk_1 kw_174 dX4_isWord_33 ?_
    refine lv_aload_n hx hb dX4_isWord_36 rfl (lv_at hl 0 rfl) ?_
    refine gg_1_3 hx hb hown E hM hk_1 kw_179 dX4_isWord_37 ?_
    refine lv_iload_n hx hb dX4_isWord_40 rfl (lv_at hl 2 rfl) ?_
    refine lv_iadd hx hb dX4_isWord_41 ?_
    obtain ⟨c4, h⟩ := gchk_e h
    refine g_bald hx hb E hM hk_2 dd_2 c4 dX4_isWord_42 ?_
    refine lv_aload_n hx hb dX4_isWord_43 rfl (lv_at hl 1 rfl) ?_
    refine lv_iload_n hx hb dX4_isWord_44 rfl (lv_at hl 2 rfl) ?_
    obtain ⟨c5, h⟩ := gchk_e h
    refine g_stc hx hb E hS 10 (n := 3) (by decide) rfl rfl c5 dX4_isWord_45 ?_
    refine lv_icmp_eq (tgt := 51) hx hb dX4_isWord_46 (by decide) (fun c6 => ?_) (fun c6 => ?_)
    · replace h := gif_t c6 h
      refine lv_iinc (v := (x2 + (1 : Int32))) (lv' := [(2, .int (x2 + (1 : Int32))), (0, .ref (ad 1)), (1, .ref (ad (100 + 10)))]) hx hb dX4_isWord_51 hl (k := 2) rfl rfl (by decide) rfl (fun ls hl => ?_)
      refine lv_goto (tgt := 26) hx hb dX4_isWord_54 (by decide) ?_
      exact kc _ (Option.some.inj h).symm hM hS (lv_sub hl [1, 2, 0] rfl)
    · replace h := gif_f c6 h
      refine lv_iconst (v := (0 : Int32)) hx hb dX4_isWord_49 (by decide) ?_
      obtain rfl := kr _ (Option.some.inj h).symm
      exact g_zret (v := b2i false) hx hb hr hlocks (b2i_nar false) hM hS dX4_isWord_50
set_option maxHeartbeats 4000000 in
theorem wl_X4_isWord_10_26 {p : Program} {l : Launch} {e : Env} {s : State} {m : MethodId} {args : Array Value} {below : List Frame} {meth : Method} {c : Code} {D : va_G} {cy : Nat → ClassId} {ad : Nat → Nat} {base : gBs}  {μ : gM} {r : (Unit) ⊕ (Bool)} {RES : Bool} (F : gF p s m meth c cX4_isWord RX4 3 (some .boolean)) (E : gEnv l D cy ad base s) (kx : ∀ (t : Unit) {H : Heap} {locs : List Loc} {ls : Array Slot}, r = .inl t → gW gFull D cy ad base μ H → va_S (gA base) s.heap H locs → lv_has ls 3 [] → W p l e ({ frames := 0, cells := 0, slots := 0, locals := 0 } : Room) s m args below meth c H locs 0 0 (MQ below (gQ (some (.int (b2i RES))) gFull D cy ad base μ) args s 0 0 (gA base)) (F0 m 57 ls [])) (kr : ∀ x : Bool, r = .inr x → x = RES) : ∀ (n : Nat) (x2 : Int32), gloop (fun t => b_X4_isWord_10_26  t μ) n x2 = some r → ∀ {H : Heap} {locs : List Loc} {ls : Array Slot}, gW gFull D cy ad base μ H → va_S (gA base) s.heap H locs → lv_has ls 3 [(0, .ref (ad 1)), (1, .ref (ad (100 + 10))), (2, .int x2)] → W p l e ({ frames := 0, cells := 0, slots := 0, locals := 0 } : Room) s m args below meth c H locs 0 0 (MQ below (gQ (some (.int (b2i RES))) gFull D cy ad base μ) args s 0 0 (gA base)) (F0 m 26 ls []) := by
  intro n
  induction n with
  | zero =>
    intro x2 h
    exact (gloop_0 h).elim
  | succ n ih =>
    intro x2 h H locs ls hM hS hl
    obtain ⟨o, h0, hc, hq⟩ := gloop_s h
    have h1 : b_X4_isWord_10_26 x2 μ = some o := h0
    exact wb_X4_isWord_10_26 h1 F E (fun t H locs ls ho hM hS hl => ih t (hc t ho) hM hS hl) (fun t H locs ls ho hM hS hl => kx t (hq _ ho).symm hM hS hl) (fun x ho => kr x (hq _ ho).symm) hM hS hl
def f_X4_isWord_10 (μ : gM) : Option (Bool) :=
  if ((gi μ 1 5) = (1 : Int32)) then if (((gi μ 1 4) - (gi μ 1 3)) = (3 : Int32)) then Option.bind (gloop (fun t => b_X4_isWord_10_26  t μ) gFuel (0 : Int32)) (fun q7 => Sum.elim (fun t8 => some true) (fun x => some x) q7) else some false else some false
set_option maxHeartbeats 4000000 in
set_option maxRecDepth 100000 in
theorem c_X4_isWord_10 {l : Launch} {D : va_G} {cy : Nat → ClassId} {ad : Nat → Nat} {base : gBs}  {μ : gM} {RES : Bool} (h : f_X4_isWord_10  μ = some RES) : Met l yX4_isWord [.code yX4_isWord cX4_isWord 3 (some .boolean)] ({ frames := 0, cells := 0, slots := 0, locals := 0 } : Room) (va_Pc [.ref (ad 1), .ref (ad (100 + 10))] (gB l gFull D cy ad base μ)) (gQ (some (.int (b2i RES))) gFull D cy ad base μ) 0 0 (gA base) := by
  refine Met.ofW (cc := cX4_isWord) (maxL := 3) (ret := (some .boolean)) (by decide) rfl ?_
  intro p e s m args below meth c s₁ B hml0 hv
  obtain ⟨rfl, E, hM⟩ := hv
  have F : gF p s m meth c cX4_isWord RX4 3 (some .boolean) := gF_of B hml0
  obtain ⟨hx, hb, hml, hown, hlocks, hr⟩ := id F
  have hS : va_S (gA base) s.heap s.heap [] := va_S.rf
  have hl := lv_entry ([.ref (ad 1), .ref (ad (100 + 10))]) (n := 3) (Nat.le_of_ble_eq_true rfl)
  rw [lg_entry_eq]
  generalize (lg_sl ([.ref (ad 1), .ref (ad (100 + 10))]) ++ List.replicate (3 - (lg_sl ([.ref (ad 1), .ref (ad (100 + 10))])).length) Slot.unset).toArray = ls at hl ⊢
  have hl : lv_has ls 3 [(0, .ref (ad 1)), (1, .ref (ad (100 + 10)))] := hl
  unfold f_X4_isWord_10 at h
  refine lv_aload_n hx hb dX4_isWord_0 rfl (lv_at hl 0 rfl) ?_
  refine gg_1_5 hx hb hown E hM hk_1 kw_181 dX4_isWord_1 ?_
  refine lv_iconst (v := (1 : Int32)) hx hb dX4_isWord_4 (by decide) ?_
  refine lv_icmp_ne (tgt := 22) hx hb dX4_isWord_5 (by decide) (fun c1 => ?_) (fun c1 => ?_)
  · replace h := gif_f c1 h
    refine lv_iconst (v := (0 : Int32)) hx hb dX4_isWord_22 (by decide) ?_
    obtain rfl := Option.some.inj h
    exact g_zret (v := b2i false) hx hb hr hlocks (b2i_nar false) hM hS dX4_isWord_23
  · replace h := gif_t c1 h
    refine lv_aload_n hx hb dX4_isWord_8 rfl (lv_at hl 0 rfl) ?_
    refine gg_1_4 hx hb hown E hM hk_1 kw_180 dX4_isWord_9 ?_
    refine lv_aload_n hx hb dX4_isWord_12 rfl (lv_at hl 0 rfl) ?_
    refine gg_1_3 hx hb hown E hM hk_1 kw_179 dX4_isWord_13 ?_
    refine lv_isub hx hb dX4_isWord_16 ?_
    refine lv_aload_n hx hb dX4_isWord_17 rfl (lv_at hl 1 rfl) ?_
    refine g_stl hx hb E hS 10 (by decide) (n := 3) rfl (v := (3 : Int32)) (by decide) dX4_isWord_18 ?_
    refine lv_icmp_eq (tgt := 24) hx hb dX4_isWord_19 (by decide) (fun c2 => ?_) (fun c2 => ?_)
    · replace h := gif_t c2 h
      refine lv_iconst (v := (0 : Int32)) hx hb dX4_isWord_24 (by decide) ?_
      refine lv_istore_n (lv' := [(2, .int (0 : Int32)), (0, .ref (ad 1)), (1, .ref (ad (100 + 10)))]) hx hb dX4_isWord_25 rfl hl (by decide) rfl (fun ls hl => ?_)
      obtain ⟨q7, h1, h⟩ := gbind_e h
      refine wl_X4_isWord_10_26 F E (r := q7) (fun t8 H locs ls e1 hM hS hl => ?_) (fun x ex => ?_) gFuel (0 : Int32) h1 hM hS (lv_sub hl [1, 2, 0] rfl)
      · replace h := gsum_l e1 h
        refine lv_iconst (v := (1 : Int32)) hx hb dX4_isWord_57 (by decide) ?_
        obtain rfl := Option.some.inj h
        exact g_zret (v := b2i true) hx hb hr hlocks (b2i_nar true) hM hS dX4_isWord_58
      · exact Option.some.inj (gsum_r ex h)
    · replace h := gif_f c2 h
      refine lv_iconst (v := (0 : Int32)) hx hb dX4_isWord_22 (by decide) ?_
      obtain rfl := Option.some.inj h
      exact g_zret (v := b2i false) hx hb hr hlocks (b2i_nar false) hM hS dX4_isWord_23
def f_X4_fail (p1 : Int32) (μ : gM) : Option (Bool × gM) :=
  some (false, (si μ 1 8 p1))
set_option maxHeartbeats 4000000 in
set_option maxRecDepth 100000 in
theorem c_X4_fail {l : Launch} {D : va_G} {cy : Nat → ClassId} {ad : Nat → Nat} {base : gBs} {p1 : Int32} {μ : gM} {RES : Bool × gM} (h : f_X4_fail p1 μ = some RES) : Met l yX4_fail [.code yX4_fail cX4_fail 2 (some .boolean)] ({ frames := 0, cells := 0, slots := 0, locals := 0 } : Room) (va_Pc [.ref (ad 1), .int p1] (gB l gFull D cy ad base μ)) (gQ (some (.int (b2i RES.1))) gFull D cy ad base RES.2) 0 0 (gA base) := by
  refine Met.ofW (cc := cX4_fail) (maxL := 2) (ret := (some .boolean)) (by decide) rfl ?_
  intro p e s m args below meth c s₁ B hml0 hv
  obtain ⟨rfl, E, hM⟩ := hv
  have F : gF p s m meth c cX4_fail RX4 2 (some .boolean) := gF_of B hml0
  obtain ⟨hx, hb, hml, hown, hlocks, hr⟩ := id F
  have hS : va_S (gA base) s.heap s.heap [] := va_S.rf
  have hl := lv_entry ([.ref (ad 1), .int p1]) (n := 2) (Nat.le_of_ble_eq_true rfl)
  rw [lg_entry_eq]
  generalize (lg_sl ([.ref (ad 1), .int p1]) ++ List.replicate (2 - (lg_sl ([.ref (ad 1), .int p1])).length) Slot.unset).toArray = ls at hl ⊢
  have hl : lv_has ls 2 [(0, .ref (ad 1)), (1, .int p1)] := hl
  unfold f_X4_fail at h
  refine lv_aload_n hx hb dX4_fail_0 rfl (lv_at hl 0 rfl) ?_
  refine lv_iload_n hx hb dX4_fail_1 rfl (lv_at hl 1 rfl) ?_
  refine gp_1_8 hx hb hown E hM hS hk_1 kw_184 dX4_fail_2 (fun H locs hM hS => ?_)
  refine lv_iconst (v := (0 : Int32)) hx hb dX4_fail_5 (by decide) ?_
  obtain rfl := Option.some.inj h
  exact g_zret (v := b2i false) hx hb hr hlocks (b2i_nar false) hM hS dX4_fail_6
def b_X4_isWord_11_26 (x2 : Int32) (μ : gM) : Option ((Int32) ⊕ ((Unit) ⊕ (Bool))) :=
  if ((9 : Int32) ≤ x2) then some (.inr (.inl ())) else gchk (gIn ((gi μ 1 3) + x2) 1200) (gchk (gIn x2 9) (if ((gi μ 2 ((gi μ 1 3) + x2).toNatClampNeg) = (sc 11 x2.toNatClampNeg)) then some (.inl (x2 + (1 : Int32))) else some (.inr (.inr false))))
set_option maxHeartbeats 4000000 in
set_option maxRecDepth 100000 in
theorem wb_X4_isWord_11_26 {p : Program} {l : Launch} {e : Env} {s : State} {m : MethodId} {args : Array Value} {below : List Frame} {meth : Method} {c : Code} {D : va_G} {cy : Nat → ClassId} {ad : Nat → Nat} {base : gBs} {x2 : Int32} {μ : gM} {o : (Int32) ⊕ ((Unit) ⊕ (Bool))} {RES : Bool} (h : b_X4_isWord_11_26 x2 μ = some o) (F : gF p s m meth c cX4_isWord RX4 3 (some .boolean)) (E : gEnv l D cy ad base s) (kc : ∀ (t : Int32) {H : Heap} {locs : List Loc} {ls : Array Slot}, o = .inl t → gW gFull D cy ad base μ H → va_S (gA base) s.heap H locs → lv_has ls 3 [(0, .ref (ad 1)), (1, .ref (ad (100 + 11))), (2, .int t)] → W p l e ({ frames := 0, cells := 0, slots := 0, locals := 0 } : Room) s m args below meth c H locs 0 0 (MQ below (gQ (some (.int (b2i RES))) gFull D cy ad base μ) args s 0 0 (gA base)) (F0 m 26 ls [])) (kx : ∀ (t : Unit) {H : Heap} {locs : List Loc} {ls : Array Slot}, o = .inr (.inl t) → gW gFull D cy ad base μ H → va_S (gA base) s.heap H locs → lv_has ls 3 [] → W p l e ({ frames := 0, cells := 0, slots := 0, locals := 0 } : Room) s m args below meth c H locs 0 0 (MQ below (gQ (some (.int (b2i RES))) gFull D cy ad base μ) args s 0 0 (gA base)) (F0 m 57 ls [])) (kr : ∀ x : Bool, o = .inr (.inr x) → x = RES) {H : Heap} {locs : List Loc} {ls : Array Slot} (hM : gW gFull D cy ad base μ H) (hS : va_S (gA base) s.heap H locs) (hl : lv_has ls 3 [(0, .ref (ad 1)), (1, .ref (ad (100 + 11))), (2, .int x2)]) : W p l e ({ frames := 0, cells := 0, slots := 0, locals := 0 } : Room) s m args below meth c H locs 0 0 (MQ below (gQ (some (.int (b2i RES))) gFull D cy ad base μ) args s 0 0 (gA base)) (F0 m 26 ls []) := by
  obtain ⟨hx, hb, hml, hown, hlocks, hr⟩ := id F
  unfold b_X4_isWord_11_26 at h
  refine lv_iload_n hx hb dX4_isWord_26 rfl (lv_at hl 2 rfl) ?_
  refine lv_aload_n hx hb dX4_isWord_27 rfl (lv_at hl 1 rfl) ?_
  refine g_stl hx hb E hS 11 (by decide) (n := 9) rfl (v := (9 : Int32)) (by decide) dX4_isWord_28 ?_
  refine lv_icmp_ge (tgt := 57) hx hb dX4_isWord_29 (by decide) (fun c3 => ?_) (fun c3 => ?_)
  · replace h := gif_t c3 h
    exact kx _ (Option.some.inj h).symm hM hS (lv_sub hl [] rfl)
  · replace h := gif_f c3 h
    refine lv_aload_n hx hb dX4_isWord_32 rfl (lv_at hl 0 rfl) ?_
    refine gg_1_0 hx hb hown E hM hk_1 kw_174 dX4_isWord_33 ?_
    refine lv_aload_n hx hb dX4_isWord_36 rfl (lv_at hl 0 rfl) ?_
    refine gg_1_3 hx hb hown E hM hk_1 kw_179 dX4_isWord_37 ?_
    refine lv_iload_n hx hb dX4_isWord_40 rfl (lv_at hl 2 rfl) ?_
    refine lv_iadd hx hb dX4_isWord_41 ?_
    obtain ⟨c4, h⟩ := gchk_e h
    refine g_bald hx hb E hM hk_2 dd_2 c4 dX4_isWord_42 ?_
    refine lv_aload_n hx hb dX4_isWord_43 rfl (lv_at hl 1 rfl) ?_
    refine lv_iload_n hx hb dX4_isWord_44 rfl (lv_at hl 2 rfl) ?_
    obtain ⟨c5, h⟩ := gchk_e h
    refine g_stc hx hb E hS 11 (n := 9) (by decide) rfl rfl c5 dX4_isWord_45 ?_
    refine lv_icmp_eq (tgt := 51) hx hb dX4_isWord_46 (by decide) (fun c6 => ?_) (fun c6 => ?_)
    · replace h := gif_t c6 h
      refine lv_iinc (v := (x2 + (1 : Int32))) (lv' := [(2, .int (x2 + (1 : Int32))), (0, .ref (ad 1)), (1, .ref (ad (100 + 11)))]) hx hb dX4_isWord_51 hl (k := 2) rfl rfl (by decide) rfl (fun ls hl => ?_)
      refine lv_goto (tgt := 26) hx hb dX4_isWord_54 (by decide) ?_
      exact kc _ (Option.some.inj h).symm hM hS (lv_sub hl [1, 2, 0] rfl)
    · replace h := gif_f c6 h
      refine lv_iconst (v := (0 : Int32)) hx hb dX4_isWord_49 (by decide) ?_
      obtain rfl := kr _ (Option.some.inj h).symm
      exact g_zret (v := b2i false) hx hb hr hlocks (b2i_nar false) hM hS dX4_isWord_50
set_option maxHeartbeats 4000000 in
theorem wl_X4_isWord_11_26 {p : Program} {l : Launch} {e : Env} {s : State} {m : MethodId} {args : Array Value} {below : List Frame} {meth : Method} {c : Code} {D : va_G} {cy : Nat → ClassId} {ad : Nat → Nat} {base : gBs}  {μ : gM} {r : (Unit) ⊕ (Bool)} {RES : Bool} (F : gF p s m meth c cX4_isWord RX4 3 (some .boolean)) (E : gEnv l D cy ad base s) (kx : ∀ (t : Unit) {H : Heap} {locs : List Loc} {ls : Array Slot}, r = .inl t → gW gFull D cy ad base μ H → va_S (gA base) s.heap H locs → lv_has ls 3 [] → W p l e ({ frames := 0, cells := 0, slots := 0, locals := 0 } : Room) s m args below meth c H locs 0 0 (MQ below (gQ (some (.int (b2i RES))) gFull D cy ad base μ) args s 0 0 (gA base)) (F0 m 57 ls [])) (kr : ∀ x : Bool, r = .inr x → x = RES) : ∀ (n : Nat) (x2 : Int32), gloop (fun t => b_X4_isWord_11_26  t μ) n x2 = some r → ∀ {H : Heap} {locs : List Loc} {ls : Array Slot}, gW gFull D cy ad base μ H → va_S (gA base) s.heap H locs → lv_has ls 3 [(0, .ref (ad 1)), (1, .ref (ad (100 + 11))), (2, .int x2)] → W p l e ({ frames := 0, cells := 0, slots := 0, locals := 0 } : Room) s m args below meth c H locs 0 0 (MQ below (gQ (some (.int (b2i RES))) gFull D cy ad base μ) args s 0 0 (gA base)) (F0 m 26 ls []) := by
  intro n
  induction n with
  | zero =>
    intro x2 h
    exact (gloop_0 h).elim
  | succ n ih =>
    intro x2 h H locs ls hM hS hl
    obtain ⟨o, h0, hc, hq⟩ := gloop_s h
    have h1 : b_X4_isWord_11_26 x2 μ = some o := h0
    exact wb_X4_isWord_11_26 h1 F E (fun t H locs ls ho hM hS hl => ih t (hc t ho) hM hS hl) (fun t H locs ls ho hM hS hl => kx t (hq _ ho).symm hM hS hl) (fun x ho => kr x (hq _ ho).symm) hM hS hl
def f_X4_isWord_11 (μ : gM) : Option (Bool) :=
  if ((gi μ 1 5) = (1 : Int32)) then if (((gi μ 1 4) - (gi μ 1 3)) = (9 : Int32)) then Option.bind (gloop (fun t => b_X4_isWord_11_26  t μ) gFuel (0 : Int32)) (fun q7 => Sum.elim (fun t8 => some true) (fun x => some x) q7) else some false else some false
set_option maxHeartbeats 4000000 in
set_option maxRecDepth 100000 in
theorem c_X4_isWord_11 {l : Launch} {D : va_G} {cy : Nat → ClassId} {ad : Nat → Nat} {base : gBs}  {μ : gM} {RES : Bool} (h : f_X4_isWord_11  μ = some RES) : Met l yX4_isWord [.code yX4_isWord cX4_isWord 3 (some .boolean)] ({ frames := 0, cells := 0, slots := 0, locals := 0 } : Room) (va_Pc [.ref (ad 1), .ref (ad (100 + 11))] (gB l gFull D cy ad base μ)) (gQ (some (.int (b2i RES))) gFull D cy ad base μ) 0 0 (gA base) := by
  refine Met.ofW (cc := cX4_isWord) (maxL := 3) (ret := (some .boolean)) (by decide) rfl ?_
  intro p e s m args below meth c s₁ B hml0 hv
  obtain ⟨rfl, E, hM⟩ := hv
  have F : gF p s m meth c cX4_isWord RX4 3 (some .boolean) := gF_of B hml0
  obtain ⟨hx, hb, hml, hown, hlocks, hr⟩ := id F
  have hS : va_S (gA base) s.heap s.heap [] := va_S.rf
  have hl := lv_entry ([.ref (ad 1), .ref (ad (100 + 11))]) (n := 3) (Nat.le_of_ble_eq_true rfl)
  rw [lg_entry_eq]
  generalize (lg_sl ([.ref (ad 1), .ref (ad (100 + 11))]) ++ List.replicate (3 - (lg_sl ([.ref (ad 1), .ref (ad (100 + 11))])).length) Slot.unset).toArray = ls at hl ⊢
  have hl : lv_has ls 3 [(0, .ref (ad 1)), (1, .ref (ad (100 + 11)))] := hl
  unfold f_X4_isWord_11 at h
  refine lv_aload_n hx hb dX4_isWord_0 rfl (lv_at hl 0 rfl) ?_
  refine gg_1_5 hx hb hown E hM hk_1 kw_181 dX4_isWord_1 ?_
  refine lv_iconst (v := (1 : Int32)) hx hb dX4_isWord_4 (by decide) ?_
  refine lv_icmp_ne (tgt := 22) hx hb dX4_isWord_5 (by decide) (fun c1 => ?_) (fun c1 => ?_)
  · replace h := gif_f c1 h
    refine lv_iconst (v := (0 : Int32)) hx hb dX4_isWord_22 (by decide) ?_
    obtain rfl := Option.some.inj h
    exact g_zret (v := b2i false) hx hb hr hlocks (b2i_nar false) hM hS dX4_isWord_23
  · replace h := gif_t c1 h
    refine lv_aload_n hx hb dX4_isWord_8 rfl (lv_at hl 0 rfl) ?_
    refine gg_1_4 hx hb hown E hM hk_1 kw_180 dX4_isWord_9 ?_
    refine lv_aload_n hx hb dX4_isWord_12 rfl (lv_at hl 0 rfl) ?_
    refine gg_1_3 hx hb hown E hM hk_1 kw_179 dX4_isWord_13 ?_
    refine lv_isub hx hb dX4_isWord_16 ?_
    refine lv_aload_n hx hb dX4_isWord_17 rfl (lv_at hl 1 rfl) ?_
    refine g_stl hx hb E hS 11 (by decide) (n := 9) rfl (v := (9 : Int32)) (by decide) dX4_isWord_18 ?_
    refine lv_icmp_eq (tgt := 24) hx hb dX4_isWord_19 (by decide) (fun c2 => ?_) (fun c2 => ?_)
    · replace h := gif_t c2 h
      refine lv_iconst (v := (0 : Int32)) hx hb dX4_isWord_24 (by decide) ?_
      refine lv_istore_n (lv' := [(2, .int (0 : Int32)), (0, .ref (ad 1)), (1, .ref (ad (100 + 11)))]) hx hb dX4_isWord_25 rfl hl (by decide) rfl (fun ls hl => ?_)
      obtain ⟨q7, h1, h⟩ := gbind_e h
      refine wl_X4_isWord_11_26 F E (r := q7) (fun t8 H locs ls e1 hM hS hl => ?_) (fun x ex => ?_) gFuel (0 : Int32) h1 hM hS (lv_sub hl [1, 2, 0] rfl)
      · replace h := gsum_l e1 h
        refine lv_iconst (v := (1 : Int32)) hx hb dX4_isWord_57 (by decide) ?_
        obtain rfl := Option.some.inj h
        exact g_zret (v := b2i true) hx hb hr hlocks (b2i_nar true) hM hS dX4_isWord_58
      · exact Option.some.inj (gsum_r ex h)
    · replace h := gif_f c2 h
      refine lv_iconst (v := (0 : Int32)) hx hb dX4_isWord_22 (by decide) ?_
      obtain rfl := Option.some.inj h
      exact g_zret (v := b2i false) hx hb hr hlocks (b2i_nar false) hM hS dX4_isWord_23
def b_X4_isWord_12_26 (x2 : Int32) (μ : gM) : Option ((Int32) ⊕ ((Unit) ⊕ (Bool))) :=
  if ((5 : Int32) ≤ x2) then some (.inr (.inl ())) else gchk (gIn ((gi μ 1 3) + x2) 1200) (gchk (gIn x2 5) (if ((gi μ 2 ((gi μ 1 3) + x2).toNatClampNeg) = (sc 12 x2.toNatClampNeg)) then some (.inl (x2 + (1 : Int32))) else some (.inr (.inr false))))
set_option maxHeartbeats 4000000 in
set_option maxRecDepth 100000 in
theorem wb_X4_isWord_12_26 {p : Program} {l : Launch} {e : Env} {s : State} {m : MethodId} {args : Array Value} {below : List Frame} {meth : Method} {c : Code} {D : va_G} {cy : Nat → ClassId} {ad : Nat → Nat} {base : gBs} {x2 : Int32} {μ : gM} {o : (Int32) ⊕ ((Unit) ⊕ (Bool))} {RES : Bool} (h : b_X4_isWord_12_26 x2 μ = some o) (F : gF p s m meth c cX4_isWord RX4 3 (some .boolean)) (E : gEnv l D cy ad base s) (kc : ∀ (t : Int32) {H : Heap} {locs : List Loc} {ls : Array Slot}, o = .inl t → gW gFull D cy ad base μ H → va_S (gA base) s.heap H locs → lv_has ls 3 [(0, .ref (ad 1)), (1, .ref (ad (100 + 12))), (2, .int t)] → W p l e ({ frames := 0, cells := 0, slots := 0, locals := 0 } : Room) s m args below meth c H locs 0 0 (MQ below (gQ (some (.int (b2i RES))) gFull D cy ad base μ) args s 0 0 (gA base)) (F0 m 26 ls [])) (kx : ∀ (t : Unit) {H : Heap} {locs : List Loc} {ls : Array Slot}, o = .inr (.inl t) → gW gFull D cy ad base μ H → va_S (gA base) s.heap H locs → lv_has ls 3 [] → W p l e ({ frames := 0, cells := 0, slots := 0, locals := 0 } : Room) s m args below meth c H locs 0 0 (MQ below (gQ (some (.int (b2i RES))) gFull D cy ad base μ) args s 0 0 (gA base)) (F0 m 57 ls [])) (kr : ∀ x : Bool, o = .inr (.inr x) → x = RES) {H : Heap} {locs : List Loc} {ls : Array Slot} (hM : gW gFull D cy ad base μ H) (hS : va_S (gA base) s.heap H locs) (hl : lv_has ls 3 [(0, .ref (ad 1)), (1, .ref (ad (100 + 12))), (2, .int x2)]) : W p l e ({ frames := 0, cells := 0, slots := 0, locals := 0 } : Room) s m args below meth c H locs 0 0 (MQ below (gQ (some (.int (b2i RES))) gFull D cy ad base μ) args s 0 0 (gA base)) (F0 m 26 ls []) := by
  obtain ⟨hx, hb, hml, hown, hlocks, hr⟩ := id F
  unfold b_X4_isWord_12_26 at h
  refine lv_iload_n hx hb dX4_isWord_26 rfl (lv_at hl 2 rfl) ?_
  refine lv_aload_n hx hb dX4_isWord_27 rfl (lv_at hl 1 rfl) ?_
  refine g_stl hx hb E hS 12 (by decide) (n := 5) rfl (v := (5 : Int32)) (by decide) dX4_isWord_28 ?_
  refine lv_icmp_ge (tgt := 57) hx hb dX4_isWord_29 (by decide) (fun c3 => ?_) (fun c3 => ?_)
  · replace h := gif_t c3 h
    exact kx _ (Option.some.inj h).symm hM hS (lv_sub hl [] rfl)
  · replace h := gif_f c3 h
    refine lv_aload_n hx hb dX4_isWord_32 rfl (lv_at hl 0 rfl) ?_
    refine gg_1_0 hx hb hown E hM hk_1 kw_174 dX4_isWord_33 ?_
    refine lv_aload_n hx hb dX4_isWord_36 rfl (lv_at hl 0 rfl) ?_
    refine gg_1_3 hx hb hown E hM hk_1 kw_179 dX4_isWord_37 ?_
    refine lv_iload_n hx hb dX4_isWord_40 rfl (lv_at hl 2 rfl) ?_
    refine lv_iadd hx hb dX4_isWord_41 ?_
    obtain ⟨c4, h⟩ := gchk_e h
    refine g_bald hx hb E hM hk_2 dd_2 c4 dX4_isWord_42 ?_
    refine lv_aload_n hx hb dX4_isWord_43 rfl (lv_at hl 1 rfl) ?_
    refine lv_iload_n hx hb dX4_isWord_44 rfl (lv_at hl 2 rfl) ?_
    obtain ⟨c5, h⟩ := gchk_e h
    refine g_stc hx hb E hS 12 (n := 5) (by decide) rfl rfl c5 dX4_isWord_45 ?_
    refine lv_icmp_eq (tgt := 51) hx hb dX4_isWord_46 (by decide) (fun c6 => ?_) (fun c6 => ?_)
    · replace h := gif_t c6 h
      refine lv_iinc (v := (x2 + (1 : Int32))) (lv' := [(2, .int (x2 + (1 : Int32))), (0, .ref (ad 1)), (1, .ref (ad (100 + 12)))]) hx hb dX4_isWord_51 hl (k := 2) rfl rfl (by decide) rfl (fun ls hl => ?_)
      refine lv_goto (tgt := 26) hx hb dX4_isWord_54 (by decide) ?_
      exact kc _ (Option.some.inj h).symm hM hS (lv_sub hl [1, 2, 0] rfl)
    · replace h := gif_f c6 h
      refine lv_iconst (v := (0 : Int32)) hx hb dX4_isWord_49 (by decide) ?_
      obtain rfl := kr _ (Option.some.inj h).symm
      exact g_zret (v := b2i false) hx hb hr hlocks (b2i_nar false) hM hS dX4_isWord_50
set_option maxHeartbeats 4000000 in
theorem wl_X4_isWord_12_26 {p : Program} {l : Launch} {e : Env} {s : State} {m : MethodId} {args : Array Value} {below : List Frame} {meth : Method} {c : Code} {D : va_G} {cy : Nat → ClassId} {ad : Nat → Nat} {base : gBs}  {μ : gM} {r : (Unit) ⊕ (Bool)} {RES : Bool} (F : gF p s m meth c cX4_isWord RX4 3 (some .boolean)) (E : gEnv l D cy ad base s) (kx : ∀ (t : Unit) {H : Heap} {locs : List Loc} {ls : Array Slot}, r = .inl t → gW gFull D cy ad base μ H → va_S (gA base) s.heap H locs → lv_has ls 3 [] → W p l e ({ frames := 0, cells := 0, slots := 0, locals := 0 } : Room) s m args below meth c H locs 0 0 (MQ below (gQ (some (.int (b2i RES))) gFull D cy ad base μ) args s 0 0 (gA base)) (F0 m 57 ls [])) (kr : ∀ x : Bool, r = .inr x → x = RES) : ∀ (n : Nat) (x2 : Int32), gloop (fun t => b_X4_isWord_12_26  t μ) n x2 = some r → ∀ {H : Heap} {locs : List Loc} {ls : Array Slot}, gW gFull D cy ad base μ H → va_S (gA base) s.heap H locs → lv_has ls 3 [(0, .ref (ad 1)), (1, .ref (ad (100 + 12))), (2, .int x2)] → W p l e ({ frames := 0, cells := 0, slots := 0, locals := 0 } : Room) s m args below meth c H locs 0 0 (MQ below (gQ (some (.int (b2i RES))) gFull D cy ad base μ) args s 0 0 (gA base)) (F0 m 26 ls []) := by
  intro n
  induction n with
  | zero =>
    intro x2 h
    exact (gloop_0 h).elim
  | succ n ih =>
    intro x2 h H locs ls hM hS hl
    obtain ⟨o, h0, hc, hq⟩ := gloop_s h
    have h1 : b_X4_isWord_12_26 x2 μ = some o := h0
    exact wb_X4_isWord_12_26 h1 F E (fun t H locs ls ho hM hS hl => ih t (hc t ho) hM hS hl) (fun t H locs ls ho hM hS hl => kx t (hq _ ho).symm hM hS hl) (fun x ho => kr x (hq _ ho).symm) hM hS hl
def f_X4_isWord_12 (μ : gM) : Option (Bool) :=
  if ((gi μ 1 5) = (1 : Int32)) then if (((gi μ 1 4) - (gi μ 1 3)) = (5 : Int32)) then Option.bind (gloop (fun t => b_X4_isWord_12_26  t μ) gFuel (0 : Int32)) (fun q7 => Sum.elim (fun t8 => some true) (fun x => some x) q7) else some false else some false
set_option maxHeartbeats 4000000 in
set_option maxRecDepth 100000 in
theorem c_X4_isWord_12 {l : Launch} {D : va_G} {cy : Nat → ClassId} {ad : Nat → Nat} {base : gBs}  {μ : gM} {RES : Bool} (h : f_X4_isWord_12  μ = some RES) : Met l yX4_isWord [.code yX4_isWord cX4_isWord 3 (some .boolean)] ({ frames := 0, cells := 0, slots := 0, locals := 0 } : Room) (va_Pc [.ref (ad 1), .ref (ad (100 + 12))] (gB l gFull D cy ad base μ)) (gQ (some (.int (b2i RES))) gFull D cy ad base μ) 0 0 (gA base) := by
  refine Met.ofW (cc := cX4_isWord) (maxL := 3) (ret := (some .boolean)) (by decide) rfl ?_
  intro p e s m args below meth c s₁ B hml0 hv
  obtain ⟨rfl, E, hM⟩ := hv
  have F : gF p s m meth c cX4_isWord RX4 3 (some .boolean) := gF_of B hml0
  obtain ⟨hx, hb, hml, hown, hlocks, hr⟩ := id F
  have hS : va_S (gA base) s.heap s.heap [] := va_S.rf
  have hl := lv_entry ([.ref (ad 1), .ref (ad (100 + 12))]) (n := 3) (Nat.le_of_ble_eq_true rfl)
  rw [lg_entry_eq]
  generalize (lg_sl ([.ref (ad 1), .ref (ad (100 + 12))]) ++ List.replicate (3 - (lg_sl ([.ref (ad 1), .ref (ad (100 + 12))])).length) Slot.unset).toArray = ls at hl ⊢
  have hl : lv_has ls 3 [(0, .ref (ad 1)), (1, .ref (ad (100 + 12)))] := hl
  unfold f_X4_isWord_12 at h
  refine lv_aload_n hx hb dX4_isWord_0 rfl (lv_at hl 0 rfl) ?_
  refine gg_1_5 hx hb hown E hM hk_1 kw_181 dX4_isWord_1 ?_
  refine lv_iconst (v := (1 : Int32)) hx hb dX4_isWord_4 (by decide) ?_
  refine lv_icmp_ne (tgt := 22) hx hb dX4_isWord_5 (by decide) (fun c1 => ?_) (fun c1 => ?_)
  · replace h := gif_f c1 h
    refine lv_iconst (v := (0 : Int32)) hx hb dX4_isWord_22 (by decide) ?_
    obtain rfl := Option.some.inj h
    exact g_zret (v := b2i false) hx hb hr hlocks (b2i_nar false) hM hS dX4_isWord_23
  · replace h := gif_t c1 h
    refine lv_aload_n hx hb dX4_isWord_8 rfl (lv_at hl 0 rfl) ?_
    refine gg_1_4 hx hb hown E hM hk_1 kw_180 dX4_isWord_9 ?_
    refine lv_aload_n hx hb dX4_isWord_12 rfl (lv_at hl 0 rfl) ?_
    refine gg_1_3 hx hb hown E hM hk_1 kw_179 dX4_isWord_13 ?_
    refine lv_isub hx hb dX4_isWord_16 ?_
    refine lv_aload_n hx hb dX4_isWord_17 rfl (lv_at hl 1 rfl) ?_
    refine g_stl hx hb E hS 12 (by decide) (n := 5) rfl (v := (5 : Int32)) (by decide) dX4_isWord_18 ?_
    refine lv_icmp_eq (tgt := 24) hx hb dX4_isWord_19 (by decide) (fun c2 => ?_) (fun c2 => ?_)
    · replace h := gif_t c2 h
      refine lv_iconst (v := (0 : Int32)) hx hb dX4_isWord_24 (by decide) ?_
      refine lv_istore_n (lv' := [(2, .int (0 : Int32)), (0, .ref (ad 1)), (1, .ref (ad (100 + 12)))]) hx hb dX4_isWord_25 rfl hl (by decide) rfl (fun ls hl => ?_)
      obtain ⟨q7, h1, h⟩ := gbind_e h
      refine wl_X4_isWord_12_26 F E (r := q7) (fun t8 H locs ls e1 hM hS hl => ?_) (fun x ex => ?_) gFuel (0 : Int32) h1 hM hS (lv_sub hl [1, 2, 0] rfl)
      · replace h := gsum_l e1 h
        refine lv_iconst (v := (1 : Int32)) hx hb dX4_isWord_57 (by decide) ?_
        obtain rfl := Option.some.inj h
        exact g_zret (v := b2i true) hx hb hr hlocks (b2i_nar true) hM hS dX4_isWord_58
      · exact Option.some.inj (gsum_r ex h)
    · replace h := gif_f c2 h
      refine lv_iconst (v := (0 : Int32)) hx hb dX4_isWord_22 (by decide) ?_
      obtain rfl := Option.some.inj h
      exact g_zret (v := b2i false) hx hb hr hlocks (b2i_nar false) hM hS dX4_isWord_23
def b_X4_isWord_13_26 (x2 : Int32) (μ : gM) : Option ((Int32) ⊕ ((Unit) ⊕ (Bool))) :=
  if ((7 : Int32) ≤ x2) then some (.inr (.inl ())) else gchk (gIn ((gi μ 1 3) + x2) 1200) (gchk (gIn x2 7) (if ((gi μ 2 ((gi μ 1 3) + x2).toNatClampNeg) = (sc 13 x2.toNatClampNeg)) then some (.inl (x2 + (1 : Int32))) else some (.inr (.inr false))))
set_option maxHeartbeats 4000000 in
set_option maxRecDepth 100000 in
theorem wb_X4_isWord_13_26 {p : Program} {l : Launch} {e : Env} {s : State} {m : MethodId} {args : Array Value} {below : List Frame} {meth : Method} {c : Code} {D : va_G} {cy : Nat → ClassId} {ad : Nat → Nat} {base : gBs} {x2 : Int32} {μ : gM} {o : (Int32) ⊕ ((Unit) ⊕ (Bool))} {RES : Bool} (h : b_X4_isWord_13_26 x2 μ = some o) (F : gF p s m meth c cX4_isWord RX4 3 (some .boolean)) (E : gEnv l D cy ad base s) (kc : ∀ (t : Int32) {H : Heap} {locs : List Loc} {ls : Array Slot}, o = .inl t → gW gFull D cy ad base μ H → va_S (gA base) s.heap H locs → lv_has ls 3 [(0, .ref (ad 1)), (1, .ref (ad (100 + 13))), (2, .int t)] → W p l e ({ frames := 0, cells := 0, slots := 0, locals := 0 } : Room) s m args below meth c H locs 0 0 (MQ below (gQ (some (.int (b2i RES))) gFull D cy ad base μ) args s 0 0 (gA base)) (F0 m 26 ls [])) (kx : ∀ (t : Unit) {H : Heap} {locs : List Loc} {ls : Array Slot}, o = .inr (.inl t) → gW gFull D cy ad base μ H → va_S (gA base) s.heap H locs → lv_has ls 3 [] → W p l e ({ frames := 0, cells := 0, slots := 0, locals := 0 } : Room) s m args below meth c H locs 0 0 (MQ below (gQ (some (.int (b2i RES))) gFull D cy ad base μ) args s 0 0 (gA base)) (F0 m 57 ls [])) (kr : ∀ x : Bool, o = .inr (.inr x) → x = RES) {H : Heap} {locs : List Loc} {ls : Array Slot} (hM : gW gFull D cy ad base μ H) (hS : va_S (gA base) s.heap H locs) (hl : lv_has ls 3 [(0, .ref (ad 1)), (1, .ref (ad (100 + 13))), (2, .int x2)]) : W p l e ({ frames := 0, cells := 0, slots := 0, locals := 0 } : Room) s m args below meth c H locs 0 0 (MQ below (gQ (some (.int (b2i RES))) gFull D cy ad base μ) args s 0 0 (gA base)) (F0 m 26 ls []) := by
  obtain ⟨hx, hb, hml, hown, hlocks, hr⟩ := id F
  unfold b_X4_isWord_13_26 at h
  refine lv_iload_n hx hb dX4_isWord_26 rfl (lv_at hl 2 rfl) ?_
  refine lv_aload_n hx hb dX4_isWord_27 rfl (lv_at hl 1 rfl) ?_
  refine g_stl hx hb E hS 13 (by decide) (n := 7) rfl (v := (7 : Int32)) (by decide) dX4_isWord_28 ?_
  refine lv_icmp_ge (tgt := 57) hx hb dX4_isWord_29 (by decide) (fun c3 => ?_) (fun c3 => ?_)
  · replace h := gif_t c3 h
    exact kx _ (Option.some.inj h).symm hM hS (lv_sub hl [] rfl)
  · replace h := gif_f c3 h
    refine lv_aload_n hx hb dX4_isWord_32 rfl (lv_at hl 0 rfl) ?_
    refine gg_1_0 hx hb hown E hM hk_1 kw_174 dX4_isWord_33 ?_
    refine lv_aload_n hx hb dX4_isWord_36 rfl (lv_at hl 0 rfl) ?_
    refine gg_1_3 hx hb hown E hM hk_1 kw_179 dX4_isWord_37 ?_
    refine lv_iload_n hx hb dX4_isWord_40 rfl (lv_at hl 2 rfl) ?_
    refine lv_iadd hx hb dX4_isWord_41 ?_
    obtain ⟨c4, h⟩ := gchk_e h
    refine g_bald hx hb E hM hk_2 dd_2 c4 dX4_isWord_42 ?_
    refine lv_aload_n hx hb dX4_isWord_43 rfl (lv_at hl 1 rfl) ?_
    refine lv_iload_n hx hb dX4_isWord_44 rfl (lv_at hl 2 rfl) ?_
    obtain ⟨c5, h⟩ := gchk_e h
    refine g_stc hx hb E hS 13 (n := 7) (by decide) rfl rfl c5 dX4_isWord_45 ?_
    refine lv_icmp_eq (tgt := 51) hx hb dX4_isWord_46 (by decide) (fun c6 => ?_) (fun c6 => ?_)
    · replace h := gif_t c6 h
      refine lv_iinc (v := (x2 + (1 : Int32))) (lv' := [(2, .int (x2 + (1 : Int32))), (0, .ref (ad 1)), (1, .ref (ad (100 + 13)))]) hx hb dX4_isWord_51 hl (k := 2) rfl rfl (by decide) rfl (fun ls hl => ?_)
      refine lv_goto (tgt := 26) hx hb dX4_isWord_54 (by decide) ?_
      exact kc _ (Option.some.inj h).symm hM hS (lv_sub hl [1, 2, 0] rfl)
    · replace h := gif_f c6 h
      refine lv_iconst (v := (0 : Int32)) hx hb dX4_isWord_49 (by decide) ?_
      obtain rfl := kr _ (Option.some.inj h).symm
      exact g_zret (v := b2i false) hx hb hr hlocks (b2i_nar false) hM hS dX4_isWord_50
set_option maxHeartbeats 4000000 in
theorem wl_X4_isWord_13_26 {p : Program} {l : Launch} {e : Env} {s : State} {m : MethodId} {args : Array Value} {below : List Frame} {meth : Method} {c : Code} {D : va_G} {cy : Nat → ClassId} {ad : Nat → Nat} {base : gBs}  {μ : gM} {r : (Unit) ⊕ (Bool)} {RES : Bool} (F : gF p s m meth c cX4_isWord RX4 3 (some .boolean)) (E : gEnv l D cy ad base s) (kx : ∀ (t : Unit) {H : Heap} {locs : List Loc} {ls : Array Slot}, r = .inl t → gW gFull D cy ad base μ H → va_S (gA base) s.heap H locs → lv_has ls 3 [] → W p l e ({ frames := 0, cells := 0, slots := 0, locals := 0 } : Room) s m args below meth c H locs 0 0 (MQ below (gQ (some (.int (b2i RES))) gFull D cy ad base μ) args s 0 0 (gA base)) (F0 m 57 ls [])) (kr : ∀ x : Bool, r = .inr x → x = RES) : ∀ (n : Nat) (x2 : Int32), gloop (fun t => b_X4_isWord_13_26  t μ) n x2 = some r → ∀ {H : Heap} {locs : List Loc} {ls : Array Slot}, gW gFull D cy ad base μ H → va_S (gA base) s.heap H locs → lv_has ls 3 [(0, .ref (ad 1)), (1, .ref (ad (100 + 13))), (2, .int x2)] → W p l e ({ frames := 0, cells := 0, slots := 0, locals := 0 } : Room) s m args below meth c H locs 0 0 (MQ below (gQ (some (.int (b2i RES))) gFull D cy ad base μ) args s 0 0 (gA base)) (F0 m 26 ls []) := by
  intro n
  induction n with
  | zero =>
    intro x2 h
    exact (gloop_0 h).elim
  | succ n ih =>
    intro x2 h H locs ls hM hS hl
    obtain ⟨o, h0, hc, hq⟩ := gloop_s h
    have h1 : b_X4_isWord_13_26 x2 μ = some o := h0
    exact wb_X4_isWord_13_26 h1 F E (fun t H locs ls ho hM hS hl => ih t (hc t ho) hM hS hl) (fun t H locs ls ho hM hS hl => kx t (hq _ ho).symm hM hS hl) (fun x ho => kr x (hq _ ho).symm) hM hS hl
def f_X4_isWord_13 (μ : gM) : Option (Bool) :=
  if ((gi μ 1 5) = (1 : Int32)) then if (((gi μ 1 4) - (gi μ 1 3)) = (7 : Int32)) then Option.bind (gloop (fun t => b_X4_isWord_13_26  t μ) gFuel (0 : Int32)) (fun q7 => Sum.elim (fun t8 => some true) (fun x => some x) q7) else some false else some false
set_option maxHeartbeats 4000000 in
set_option maxRecDepth 100000 in
theorem c_X4_isWord_13 {l : Launch} {D : va_G} {cy : Nat → ClassId} {ad : Nat → Nat} {base : gBs}  {μ : gM} {RES : Bool} (h : f_X4_isWord_13  μ = some RES) : Met l yX4_isWord [.code yX4_isWord cX4_isWord 3 (some .boolean)] ({ frames := 0, cells := 0, slots := 0, locals := 0 } : Room) (va_Pc [.ref (ad 1), .ref (ad (100 + 13))] (gB l gFull D cy ad base μ)) (gQ (some (.int (b2i RES))) gFull D cy ad base μ) 0 0 (gA base) := by
  refine Met.ofW (cc := cX4_isWord) (maxL := 3) (ret := (some .boolean)) (by decide) rfl ?_
  intro p e s m args below meth c s₁ B hml0 hv
  obtain ⟨rfl, E, hM⟩ := hv
  have F : gF p s m meth c cX4_isWord RX4 3 (some .boolean) := gF_of B hml0
  obtain ⟨hx, hb, hml, hown, hlocks, hr⟩ := id F
  have hS : va_S (gA base) s.heap s.heap [] := va_S.rf
  have hl := lv_entry ([.ref (ad 1), .ref (ad (100 + 13))]) (n := 3) (Nat.le_of_ble_eq_true rfl)
  rw [lg_entry_eq]
  generalize (lg_sl ([.ref (ad 1), .ref (ad (100 + 13))]) ++ List.replicate (3 - (lg_sl ([.ref (ad 1), .ref (ad (100 + 13))])).length) Slot.unset).toArray = ls at hl ⊢
  have hl : lv_has ls 3 [(0, .ref (ad 1)), (1, .ref (ad (100 + 13)))] := hl
  unfold f_X4_isWord_13 at h
  refine lv_aload_n hx hb dX4_isWord_0 rfl (lv_at hl 0 rfl) ?_
  refine gg_1_5 hx hb hown E hM hk_1 kw_181 dX4_isWord_1 ?_
  refine lv_iconst (v := (1 : Int32)) hx hb dX4_isWord_4 (by decide) ?_
  refine lv_icmp_ne (tgt := 22) hx hb dX4_isWord_5 (by decide) (fun c1 => ?_) (fun c1 => ?_)
  · replace h := gif_f c1 h
    refine lv_iconst (v := (0 : Int32)) hx hb dX4_isWord_22 (by decide) ?_
    obtain rfl := Option.some.inj h
    exact g_zret (v := b2i false) hx hb hr hlocks (b2i_nar false) hM hS dX4_isWord_23
  · replace h := gif_t c1 h
    refine lv_aload_n hx hb dX4_isWord_8 rfl (lv_at hl 0 rfl) ?_
    refine gg_1_4 hx hb hown E hM hk_1 kw_180 dX4_isWord_9 ?_
    refine lv_aload_n hx hb dX4_isWord_12 rfl (lv_at hl 0 rfl) ?_
    refine gg_1_3 hx hb hown E hM hk_1 kw_179 dX4_isWord_13 ?_
    refine lv_isub hx hb dX4_isWord_16 ?_
    refine lv_aload_n hx hb dX4_isWord_17 rfl (lv_at hl 1 rfl) ?_
    refine g_stl hx hb E hS 13 (by decide) (n := 7) rfl (v := (7 : Int32)) (by decide) dX4_isWord_18 ?_
    refine lv_icmp_eq (tgt := 24) hx hb dX4_isWord_19 (by decide) (fun c2 => ?_) (fun c2 => ?_)
    · replace h := gif_t c2 h
      refine lv_iconst (v := (0 : Int32)) hx hb dX4_isWord_24 (by decide) ?_
      refine lv_istore_n (lv' := [(2, .int (0 : Int32)), (0, .ref (ad 1)), (1, .ref (ad (100 + 13)))]) hx hb dX4_isWord_25 rfl hl (by decide) rfl (fun ls hl => ?_)
      obtain ⟨q7, h1, h⟩ := gbind_e h
      refine wl_X4_isWord_13_26 F E (r := q7) (fun t8 H locs ls e1 hM hS hl => ?_) (fun x ex => ?_) gFuel (0 : Int32) h1 hM hS (lv_sub hl [1, 2, 0] rfl)
      · replace h := gsum_l e1 h
        refine lv_iconst (v := (1 : Int32)) hx hb dX4_isWord_57 (by decide) ?_
        obtain rfl := Option.some.inj h
        exact g_zret (v := b2i true) hx hb hr hlocks (b2i_nar true) hM hS dX4_isWord_58
      · exact Option.some.inj (gsum_r ex h)
    · replace h := gif_f c2 h
      refine lv_iconst (v := (0 : Int32)) hx hb dX4_isWord_22 (by decide) ?_
      obtain rfl := Option.some.inj h
      exact g_zret (v := b2i false) hx hb hr hlocks (b2i_nar false) hM hS dX4_isWord_23
def j_X4_isIntegerIn_31  (μ : gM) : Option (Bool × gM) :=
  Option.bind (f_X4_fail (-12 : Int32) μ) (fun q3 => if ((b2i q3.1) = 0) then some (false, q3.2) else some (true, q3.2))
set_option maxHeartbeats 4000000 in
set_option maxRecDepth 100000 in
theorem wj_X4_isIntegerIn_31 {p : Program} {l : Launch} {e : Env} {s : State} {m : MethodId} {args : Array Value} {below : List Frame} {meth : Method} {c : Code} {D : va_G} {cy : Nat → ClassId} {ad : Nat → Nat} {base : gBs}  {μ : gM} {o : Bool × gM} (h : j_X4_isIntegerIn_31  μ = some o) (F : gF p s m meth c cX4_isIntegerIn RX4 3 (some .boolean)) (E : gEnv l D cy ad base s)  {H : Heap} {locs : List Loc} {ls : Array Slot} (hM : gW gFull D cy ad base μ H) (hS : va_S (gA base) s.heap H locs) (hl : lv_has ls 3 [(0, .ref (ad 1))]) : W p l e ({ frames := 1, cells := 0, slots := 0, locals := 21 } : Room) s m args below meth c H locs 0 0 (MQ below (gQ (some (.int (b2i o.1))) gFull D cy ad base o.2) args s 0 0 (gA base)) (F0 m 31 ls []) := by
  obtain ⟨hx, hb, hml, hown, hlocks, hr⟩ := id F
  unfold j_X4_isIntegerIn_31 at h
  refine lv_aload_n hx hb dX4_isIntegerIn_31 rfl (lv_at hl 0 rfl) ?_
  refine lv_bipush (v := (-12 : Int32)) hx hb dX4_isIntegerIn_32 (by decide) ?_
  obtain ⟨q3, hq3, h⟩ := gbind_e h
  refine g_callV (As := [.int (-12 : Int32)]) (rest := []) hx hb (hml.trans hl.1.symm) hown E hM hS hy_X4_fail kw_946 (c_X4_fail hq3) hk_1 dd_1 rfl rfl rfl (Nat.le_of_ble_eq_true rfl) ⟨Nat.le_of_ble_eq_true rfl, Nat.le_of_ble_eq_true rfl⟩ ⟨Nat.le_of_ble_eq_true rfl, Nat.le_of_ble_eq_true rfl⟩ dX4_isIntegerIn_34 (fun H locs hM hS => ?_)
  refine lv_if_eq (tgt := 44) hx hb dX4_isIntegerIn_37 (by decide) (fun c4 => ?_) (fun c4 => ?_)
  · replace h := gif_t c4 h
    refine lv_iconst (v := (0 : Int32)) hx hb dX4_isIntegerIn_44 (by decide) ?_
    obtain rfl := Option.some.inj h
    exact g_zret (v := b2i false) hx hb hr hlocks (b2i_nar false) hM hS dX4_isIntegerIn_45
  · replace h := gif_f c4 h
    refine lv_iconst (v := (1 : Int32)) hx hb dX4_isIntegerIn_40 (by decide) ?_
    refine lv_goto (tgt := 45) hx hb dX4_isIntegerIn_41 (by decide) ?_
    obtain rfl := Option.some.inj h
    exact g_zret (v := b2i true) hx hb hr hlocks (b2i_nar true) hM hS dX4_isIntegerIn_45
def f_X4_isIntegerIn (p1 : Int32) (p2 : Int32) (μ : gM) : Option (Bool × gM) :=
  if ((gi μ 1 5) = (2 : Int32)) then if ((gi μ 1 7) < p1) then j_X4_isIntegerIn_31  μ else if ((gi μ 1 7) ≤ p2) then some (true, μ) else j_X4_isIntegerIn_31  μ else Option.bind (f_X4_fail (-11 : Int32) μ) (fun q6 => some (q6.1, q6.2))
set_option maxHeartbeats 4000000 in
set_option maxRecDepth 100000 in
theorem c_X4_isIntegerIn {l : Launch} {D : va_G} {cy : Nat → ClassId} {ad : Nat → Nat} {base : gBs} {p1 : Int32} {p2 : Int32} {μ : gM} {RES : Bool × gM} (h : f_X4_isIntegerIn p1 p2 μ = some RES) : Met l yX4_isIntegerIn [.code yX4_isIntegerIn cX4_isIntegerIn 3 (some .boolean)] ({ frames := 1, cells := 0, slots := 0, locals := 21 } : Room) (va_Pc [.ref (ad 1), .int p1, .int p2] (gB l gFull D cy ad base μ)) (gQ (some (.int (b2i RES.1))) gFull D cy ad base RES.2) 0 0 (gA base) := by
  refine Met.ofW (cc := cX4_isIntegerIn) (maxL := 3) (ret := (some .boolean)) (by decide) rfl ?_
  intro p e s m args below meth c s₁ B hml0 hv
  obtain ⟨rfl, E, hM⟩ := hv
  have F : gF p s m meth c cX4_isIntegerIn RX4 3 (some .boolean) := gF_of B hml0
  obtain ⟨hx, hb, hml, hown, hlocks, hr⟩ := id F
  have hS : va_S (gA base) s.heap s.heap [] := va_S.rf
  have hl := lv_entry ([.ref (ad 1), .int p1, .int p2]) (n := 3) (Nat.le_of_ble_eq_true rfl)
  rw [lg_entry_eq]
  generalize (lg_sl ([.ref (ad 1), .int p1, .int p2]) ++ List.replicate (3 - (lg_sl ([.ref (ad 1), .int p1, .int p2])).length) Slot.unset).toArray = ls at hl ⊢
  have hl : lv_has ls 3 [(0, .ref (ad 1)), (1, .int p1), (2, .int p2)] := hl
  unfold f_X4_isIntegerIn at h
  refine lv_aload_n hx hb dX4_isIntegerIn_0 rfl (lv_at hl 0 rfl) ?_
  refine gg_1_5 hx hb hown E hM hk_1 kw_181 dX4_isIntegerIn_1 ?_
  refine lv_iconst (v := (2 : Int32)) hx hb dX4_isIntegerIn_4 (by decide) ?_
  refine lv_icmp_eq (tgt := 15) hx hb dX4_isIntegerIn_5 (by decide) (fun c1 => ?_) (fun c1 => ?_)
  · replace h := gif_t c1 h
    refine lv_aload_n hx hb dX4_isIntegerIn_15 rfl (lv_at hl 0 rfl) ?_
    refine gg_1_7 hx hb hown E hM hk_1 kw_183 dX4_isIntegerIn_16 ?_
    refine lv_iload_n hx hb dX4_isIntegerIn_19 rfl (lv_at hl 1 rfl) ?_
    refine lv_icmp_lt (tgt := 31) hx hb dX4_isIntegerIn_20 (by decide) (fun c2 => ?_) (fun c2 => ?_)
    · replace h := gif_t c2 h
      exact wj_X4_isIntegerIn_31 h F E hM hS (lv_sub hl [0] rfl)
    · replace h := gif_f c2 h
      refine lv_aload_n hx hb dX4_isIntegerIn_23 rfl (lv_at hl 0 rfl) ?_
      refine gg_1_7 hx hb hown E hM hk_1 kw_183 dX4_isIntegerIn_24 ?_
      refine lv_iload_n hx hb dX4_isIntegerIn_27 rfl (lv_at hl 2 rfl) ?_
      refine lv_icmp_le (tgt := 40) hx hb dX4_isIntegerIn_28 (by decide) (fun c5 => ?_) (fun c5 => ?_)
      · replace h := gif_t c5 h
        refine lv_iconst (v := (1 : Int32)) hx hb dX4_isIntegerIn_40 (by decide) ?_
        refine lv_goto (tgt := 45) hx hb dX4_isIntegerIn_41 (by decide) ?_
        obtain rfl := Option.some.inj h
        exact g_zret (v := b2i true) hx hb hr hlocks (b2i_nar true) hM hS dX4_isIntegerIn_45
      · replace h := gif_f c5 h
        exact wj_X4_isIntegerIn_31 h F E hM hS (lv_sub hl [0] rfl)
  · replace h := gif_f c1 h
    refine lv_aload_n hx hb dX4_isIntegerIn_8 rfl (lv_at hl 0 rfl) ?_
    refine lv_bipush (v := (-11 : Int32)) hx hb dX4_isIntegerIn_9 (by decide) ?_
    obtain ⟨q6, hq6, h⟩ := gbind_e h
    refine g_callV (As := [.int (-11 : Int32)]) (rest := []) hx hb (hml.trans hl.1.symm) hown E hM hS hy_X4_fail kw_946 (c_X4_fail hq6) hk_1 dd_1 rfl rfl rfl (Nat.le_of_ble_eq_true rfl) ⟨Nat.le_of_ble_eq_true rfl, Nat.le_of_ble_eq_true rfl⟩ ⟨Nat.le_of_ble_eq_true rfl, Nat.le_of_ble_eq_true rfl⟩ dX4_isIntegerIn_11 (fun H locs hM hS => ?_)
    obtain rfl := Option.some.inj h
    exact g_zret hx hb hr hlocks (b2i_nar _) hM hS dX4_isIntegerIn_14
def j_X4_readSetting_48 (x2 : Int32) (μ : gM) : Option (Bool × gM) :=
  if (x2 = (-1 : Int32)) then Option.bind (f_X4_fail (-11 : Int32) μ) (fun q18 => some (q18.1, q18.2)) else if ((((gi μ 1 9) >>> (x2 &&& 31)) &&& (1 : Int32)) = (1 : Int32)) then Option.bind (f_X4_fail (-14 : Int32) μ) (fun q17 => some (q17.1, q17.2)) else Option.bind (f_X4_advance  (si μ 1 9 ((gi μ 1 9) ||| ((1 : Int32) <<< (x2 &&& 31))))) (fun q10 => gchk (gIn x2 3) (gchk (gIn x2 3) (Option.bind (f_X4_isIntegerIn (sc 2 x2.toNatClampNeg) (sc 3 x2.toNatClampNeg) q10) (fun q13 => if ((b2i q13.1) = 0) then some (false, q13.2) else gchk (gIn x2 3) (Option.bind (f_X4_advance  (si q13.2 48 x2.toNatClampNeg (gi q13.2 1 7))) (fun q16 => some (true, q16)))))))
set_option maxHeartbeats 4000000 in
set_option maxRecDepth 100000 in
theorem wj_X4_readSetting_48 {p : Program} {l : Launch} {e : Env} {s : State} {m : MethodId} {args : Array Value} {below : List Frame} {meth : Method} {c : Code} {D : va_G} {cy : Nat → ClassId} {ad : Nat → Nat} {base : gBs} {x2 : Int32} {μ : gM} {o : Bool × gM} (h : j_X4_readSetting_48 x2 μ = some o) (F : gF p s m meth c cX4_readSetting RX4 3 (some .boolean)) (E : gEnv l D cy ad base s)  {H : Heap} {locs : List Loc} {ls : Array Slot} (hM : gW gFull D cy ad base μ H) (hS : va_S (gA base) s.heap H locs) (hl : lv_has ls 3 [(0, .ref (ad 1)), (1, .ref (ad 47)), (2, .int x2)]) : W p l e ({ frames := 2, cells := 0, slots := 0, locals := 43 } : Room) s m args below meth c H locs 0 0 (MQ below (gQ (some (.int (b2i o.1))) gFull D cy ad base o.2) args s 0 0 (gA base)) (F0 m 48 ls []) := by
  obtain ⟨hx, hb, hml, hown, hlocks, hr⟩ := id F
  unfold j_X4_readSetting_48 at h
  refine lv_iload_n hx hb dX4_readSetting_48 rfl (lv_at hl 2 rfl) ?_
  refine lv_iconst (v := (-1 : Int32)) hx hb dX4_readSetting_49 (by decide) ?_
  refine lv_icmp_ne (tgt := 60) hx hb dX4_readSetting_50 (by decide) (fun c8 => ?_) (fun c8 => ?_)
  · replace h := gif_f c8 h
    refine lv_aload_n hx hb dX4_readSetting_60 rfl (lv_at hl 0 rfl) ?_
    refine gg_1_9 hx hb hown E hM hk_1 kw_185 dX4_readSetting_61 ?_
    refine lv_iload_n hx hb dX4_readSetting_64 rfl (lv_at hl 2 rfl) ?_
    refine lv_ishr hx hb dX4_readSetting_65 ?_
    refine lv_iconst (v := (1 : Int32)) hx hb dX4_readSetting_66 (by decide) ?_
    refine lv_iand hx hb dX4_readSetting_67 ?_
    refine lv_iconst (v := (1 : Int32)) hx hb dX4_readSetting_68 (by decide) ?_
    refine lv_icmp_ne (tgt := 79) hx hb dX4_readSetting_69 (by decide) (fun c9 => ?_) (fun c9 => ?_)
    · replace h := gif_f c9 h
      refine lv_aload_n hx hb dX4_readSetting_79 rfl (lv_at hl 0 rfl) ?_
      refine lv_dup hx hb dX4_readSetting_80 rfl ?_
      refine gg_1_9 hx hb hown E hM hk_1 kw_185 dX4_readSetting_81 ?_
      refine lv_iconst (v := (1 : Int32)) hx hb dX4_readSetting_84 (by decide) ?_
      refine lv_iload_n hx hb dX4_readSetting_85 rfl (lv_at hl 2 rfl) ?_
      refine lv_ishl hx hb dX4_readSetting_86 ?_
      refine lv_ior hx hb dX4_readSetting_87 ?_
      refine gp_1_9 hx hb hown E hM hS hk_1 kw_185 dX4_readSetting_88 (fun H locs hM hS => ?_)
      refine lv_aload_n hx hb dX4_readSetting_91 rfl (lv_at hl 0 rfl) ?_
      obtain ⟨q10, hq10, h⟩ := gbind_e h
      refine g_callV (As := []) (rest := []) hx hb (hml.trans hl.1.symm) hown E hM hS hy_X4_advance kw_919 (c_X4_advance hq10) hk_1 dd_1 rfl rfl rfl (Nat.le_of_ble_eq_true rfl) ⟨Nat.le_of_ble_eq_true rfl, Nat.le_of_ble_eq_true rfl⟩ ⟨Nat.le_of_ble_eq_true rfl, Nat.le_of_ble_eq_true rfl⟩ dX4_readSetting_92 (fun H locs hM hS => ?_)
      refine lv_aload_n hx hb dX4_readSetting_95 rfl (lv_at hl 0 rfl) ?_
      refine g_getsN hx hb hown E hS 2 (by decide) (gSt_2) E.2.2.2.2.2.2.2.1 dX4_readSetting_96 ?_
      refine lv_iload_n hx hb dX4_readSetting_99 rfl (lv_at hl 2 rfl) ?_
      obtain ⟨c11, h⟩ := gchk_e h
      refine g_sti hx hb E hS 2 (n := 3) (by decide) rfl rfl c11 dX4_readSetting_100 ?_
      refine g_getsN hx hb hown E hS 3 (by decide) (gSt_3) E.2.2.2.2.2.2.2.2 dX4_readSetting_101 ?_
      refine lv_iload_n hx hb dX4_readSetting_104 rfl (lv_at hl 2 rfl) ?_
      obtain ⟨c12, h⟩ := gchk_e h
      refine g_sti hx hb E hS 3 (n := 3) (by decide) rfl rfl c12 dX4_readSetting_105 ?_
      obtain ⟨q13, hq13, h⟩ := gbind_e h
      refine g_callV (As := [.int (sc 2 x2.toNatClampNeg), .int (sc 3 x2.toNatClampNeg)]) (rest := []) hx hb (hml.trans hl.1.symm) hown E hM hS hy_X4_isIntegerIn kw_978 (c_X4_isIntegerIn hq13) hk_1 dd_1 rfl rfl rfl (Nat.le_of_ble_eq_true rfl) ⟨Nat.le_of_ble_eq_true rfl, Nat.le_of_ble_eq_true rfl⟩ ⟨Nat.le_of_ble_eq_true rfl, Nat.le_of_ble_eq_true rfl⟩ dX4_readSetting_106 (fun H locs hM hS => ?_)
      refine lv_if_ne (tgt := 114) hx hb dX4_readSetting_109 (by decide) (fun c14 => ?_) (fun c14 => ?_)
      · replace h := gif_f c14 h
        refine lv_aload_n hx hb dX4_readSetting_114 rfl (lv_at hl 1 rfl) ?_
        refine gg_47_5 hx hb hown E hM hk_47 kw_414 dX4_readSetting_115 ?_
        refine lv_iload_n hx hb dX4_readSetting_118 rfl (lv_at hl 2 rfl) ?_
        refine lv_aload_n hx hb dX4_readSetting_119 rfl (lv_at hl 0 rfl) ?_
        refine gg_1_7 hx hb hown E hM hk_1 kw_183 dX4_readSetting_120 ?_
        obtain ⟨c15, h⟩ := gchk_e h
        refine g_iast hx hb E hM hS hk_48 dd_48 c15 dX4_readSetting_123 (fun H locs hM hS => ?_)
        refine lv_aload_n hx hb dX4_readSetting_124 rfl (lv_at hl 0 rfl) ?_
        obtain ⟨q16, hq16, h⟩ := gbind_e h
        refine g_callV (As := []) (rest := []) hx hb (hml.trans hl.1.symm) hown E hM hS hy_X4_advance kw_919 (c_X4_advance hq16) hk_1 dd_1 rfl rfl rfl (Nat.le_of_ble_eq_true rfl) ⟨Nat.le_of_ble_eq_true rfl, Nat.le_of_ble_eq_true rfl⟩ ⟨Nat.le_of_ble_eq_true rfl, Nat.le_of_ble_eq_true rfl⟩ dX4_readSetting_125 (fun H locs hM hS => ?_)
        refine lv_iconst (v := (1 : Int32)) hx hb dX4_readSetting_128 (by decide) ?_
        obtain rfl := Option.some.inj h
        exact g_zret (v := b2i true) hx hb hr hlocks (b2i_nar true) hM hS dX4_readSetting_129
      · replace h := gif_t c14 h
        refine lv_iconst (v := (0 : Int32)) hx hb dX4_readSetting_112 (by decide) ?_
        obtain rfl := Option.some.inj h
        exact g_zret (v := b2i false) hx hb hr hlocks (b2i_nar false) hM hS dX4_readSetting_113
    · replace h := gif_t c9 h
      refine lv_aload_n hx hb dX4_readSetting_72 rfl (lv_at hl 0 rfl) ?_
      refine lv_bipush (v := (-14 : Int32)) hx hb dX4_readSetting_73 (by decide) ?_
      obtain ⟨q17, hq17, h⟩ := gbind_e h
      refine g_callV (As := [.int (-14 : Int32)]) (rest := []) hx hb (hml.trans hl.1.symm) hown E hM hS hy_X4_fail kw_946 (c_X4_fail hq17) hk_1 dd_1 rfl rfl rfl (Nat.le_of_ble_eq_true rfl) ⟨Nat.le_of_ble_eq_true rfl, Nat.le_of_ble_eq_true rfl⟩ ⟨Nat.le_of_ble_eq_true rfl, Nat.le_of_ble_eq_true rfl⟩ dX4_readSetting_75 (fun H locs hM hS => ?_)
      obtain rfl := Option.some.inj h
      exact g_zret hx hb hr hlocks (b2i_nar _) hM hS dX4_readSetting_78
  · replace h := gif_t c8 h
    refine lv_aload_n hx hb dX4_readSetting_53 rfl (lv_at hl 0 rfl) ?_
    refine lv_bipush (v := (-11 : Int32)) hx hb dX4_readSetting_54 (by decide) ?_
    obtain ⟨q18, hq18, h⟩ := gbind_e h
    refine g_callV (As := [.int (-11 : Int32)]) (rest := []) hx hb (hml.trans hl.1.symm) hown E hM hS hy_X4_fail kw_946 (c_X4_fail hq18) hk_1 dd_1 rfl rfl rfl (Nat.le_of_ble_eq_true rfl) ⟨Nat.le_of_ble_eq_true rfl, Nat.le_of_ble_eq_true rfl⟩ ⟨Nat.le_of_ble_eq_true rfl, Nat.le_of_ble_eq_true rfl⟩ dX4_readSetting_56 (fun H locs hM hS => ?_)
    obtain rfl := Option.some.inj h
    exact g_zret hx hb hr hlocks (b2i_nar _) hM hS dX4_readSetting_59
def f_X4_readSetting (μ : gM) : Option (Bool × gM) :=
  Option.bind (f_X4_advance  μ) (fun q1 => Option.bind (f_X4_isWord_11  q1) (fun q2 => if ((b2i q2) = 0) then Option.bind (f_X4_isWord_12  q1) (fun q4 => if ((b2i q4) = 0) then Option.bind (f_X4_isWord_13  q1) (fun q6 => if ((b2i q6) = 0) then j_X4_readSetting_48 (-1 : Int32) q1 else j_X4_readSetting_48 (2 : Int32) q1) else j_X4_readSetting_48 (1 : Int32) q1) else j_X4_readSetting_48 (0 : Int32) q1))
set_option maxHeartbeats 4000000 in
set_option maxRecDepth 100000 in
theorem c_X4_readSetting {l : Launch} {D : va_G} {cy : Nat → ClassId} {ad : Nat → Nat} {base : gBs}  {μ : gM} {RES : Bool × gM} (h : f_X4_readSetting  μ = some RES) : Met l yX4_readSetting [.code yX4_readSetting cX4_readSetting 3 (some .boolean)] ({ frames := 2, cells := 0, slots := 0, locals := 43 } : Room) (va_Pc [.ref (ad 1), .ref (ad 47)] (gB l gFull D cy ad base μ)) (gQ (some (.int (b2i RES.1))) gFull D cy ad base RES.2) 0 0 (gA base) := by
  refine Met.ofW (cc := cX4_readSetting) (maxL := 3) (ret := (some .boolean)) (by decide) rfl ?_
  intro p e s m args below meth c s₁ B hml0 hv
  obtain ⟨rfl, E, hM⟩ := hv
  have F : gF p s m meth c cX4_readSetting RX4 3 (some .boolean) := gF_of B hml0
  obtain ⟨hx, hb, hml, hown, hlocks, hr⟩ := id F
  have hS : va_S (gA base) s.heap s.heap [] := va_S.rf
  have hl := lv_entry ([.ref (ad 1), .ref (ad 47)]) (n := 3) (Nat.le_of_ble_eq_true rfl)
  rw [lg_entry_eq]
  generalize (lg_sl ([.ref (ad 1), .ref (ad 47)]) ++ List.replicate (3 - (lg_sl ([.ref (ad 1), .ref (ad 47)])).length) Slot.unset).toArray = ls at hl ⊢
  have hl : lv_has ls 3 [(0, .ref (ad 1)), (1, .ref (ad 47))] := hl
  unfold f_X4_readSetting at h
  refine lv_aload_n hx hb dX4_readSetting_0 rfl (lv_at hl 0 rfl) ?_
  obtain ⟨q1, hq1, h⟩ := gbind_e h
  refine g_callV (As := []) (rest := []) hx hb (hml.trans hl.1.symm) hown E hM hS hy_X4_advance kw_919 (c_X4_advance hq1) hk_1 dd_1 rfl rfl rfl (Nat.le_of_ble_eq_true rfl) ⟨Nat.le_of_ble_eq_true rfl, Nat.le_of_ble_eq_true rfl⟩ ⟨Nat.le_of_ble_eq_true rfl, Nat.le_of_ble_eq_true rfl⟩ dX4_readSetting_1 (fun H locs hM hS => ?_)
  refine lv_iconst (v := (-1 : Int32)) hx hb dX4_readSetting_4 (by decide) ?_
  refine lv_istore_n (lv' := [(2, .int (-1 : Int32)), (0, .ref (ad 1)), (1, .ref (ad 47))]) hx hb dX4_readSetting_5 rfl hl (by decide) rfl (fun ls hl => ?_)
  refine lv_aload_n hx hb dX4_readSetting_6 rfl (lv_at hl 1 rfl) ?_
  refine g_gets hx hb hown E hS 11 (by decide) (gSt_11) kw_1015 dX4_readSetting_7 ?_
  obtain ⟨q2, hq2, h⟩ := gbind_e h
  refine g_callV (As := [.ref (ad (100 + 11))]) (rest := []) hx hb (hml.trans hl.1.symm) hown E hM hS hy_X4_isWord kw_938 (c_X4_isWord_11 hq2) hk_1 dd_1 rfl rfl rfl (Nat.le_of_ble_eq_true rfl) ⟨Nat.le_of_ble_eq_true rfl, Nat.le_of_ble_eq_true rfl⟩ ⟨Nat.le_of_ble_eq_true rfl, Nat.le_of_ble_eq_true rfl⟩ dX4_readSetting_10 (fun H locs hM hS => ?_)
  refine lv_if_eq (tgt := 21) hx hb dX4_readSetting_13 (by decide) (fun c3 => ?_) (fun c3 => ?_)
  · replace h := gif_t c3 h
    refine lv_aload_n hx hb dX4_readSetting_21 rfl (lv_at hl 1 rfl) ?_
    refine g_gets hx hb hown E hS 12 (by decide) (gSt_12) kw_968 dX4_readSetting_22 ?_
    obtain ⟨q4, hq4, h⟩ := gbind_e h
    refine g_callV (As := [.ref (ad (100 + 12))]) (rest := []) hx hb (hml.trans hl.1.symm) hown E hM hS hy_X4_isWord kw_938 (c_X4_isWord_12 hq4) hk_1 dd_1 rfl rfl rfl (Nat.le_of_ble_eq_true rfl) ⟨Nat.le_of_ble_eq_true rfl, Nat.le_of_ble_eq_true rfl⟩ ⟨Nat.le_of_ble_eq_true rfl, Nat.le_of_ble_eq_true rfl⟩ dX4_readSetting_25 (fun H locs hM hS => ?_)
    refine lv_if_eq (tgt := 36) hx hb dX4_readSetting_28 (by decide) (fun c5 => ?_) (fun c5 => ?_)
    · replace h := gif_t c5 h
      refine lv_aload_n hx hb dX4_readSetting_36 rfl (lv_at hl 1 rfl) ?_
      refine g_gets hx hb hown E hS 13 (by decide) (gSt_13) kw_1017 dX4_readSetting_37 ?_
      obtain ⟨q6, hq6, h⟩ := gbind_e h
      refine g_callV (As := [.ref (ad (100 + 13))]) (rest := []) hx hb (hml.trans hl.1.symm) hown E hM hS hy_X4_isWord kw_938 (c_X4_isWord_13 hq6) hk_1 dd_1 rfl rfl rfl (Nat.le_of_ble_eq_true rfl) ⟨Nat.le_of_ble_eq_true rfl, Nat.le_of_ble_eq_true rfl⟩ ⟨Nat.le_of_ble_eq_true rfl, Nat.le_of_ble_eq_true rfl⟩ dX4_readSetting_40 (fun H locs hM hS => ?_)
      refine lv_if_eq (tgt := 48) hx hb dX4_readSetting_43 (by decide) (fun c7 => ?_) (fun c7 => ?_)
      · replace h := gif_t c7 h
        exact wj_X4_readSetting_48 h F E hM hS (lv_sub hl [1, 2, 0] rfl)
      · replace h := gif_f c7 h
        refine lv_iconst (v := (2 : Int32)) hx hb dX4_readSetting_46 (by decide) ?_
        refine lv_istore_n (lv' := [(2, .int (2 : Int32)), (0, .ref (ad 1)), (1, .ref (ad 47))]) hx hb dX4_readSetting_47 rfl hl (by decide) rfl (fun ls hl => ?_)
        exact wj_X4_readSetting_48 h F E hM hS (lv_sub hl [1, 2, 0] rfl)
    · replace h := gif_f c5 h
      refine lv_iconst (v := (1 : Int32)) hx hb dX4_readSetting_31 (by decide) ?_
      refine lv_istore_n (lv' := [(2, .int (1 : Int32)), (0, .ref (ad 1)), (1, .ref (ad 47))]) hx hb dX4_readSetting_32 rfl hl (by decide) rfl (fun ls hl => ?_)
      refine lv_goto (tgt := 48) hx hb dX4_readSetting_33 (by decide) ?_
      exact wj_X4_readSetting_48 h F E hM hS (lv_sub hl [1, 2, 0] rfl)
  · replace h := gif_f c3 h
    refine lv_iconst (v := (0 : Int32)) hx hb dX4_readSetting_16 (by decide) ?_
    refine lv_istore_n (lv' := [(2, .int (0 : Int32)), (0, .ref (ad 1)), (1, .ref (ad 47))]) hx hb dX4_readSetting_17 rfl hl (by decide) rfl (fun ls hl => ?_)
    refine lv_goto (tgt := 48) hx hb dX4_readSetting_18 (by decide) ?_
    exact wj_X4_readSetting_48 h F E hM hS (lv_sub hl [1, 2, 0] rfl)
def b_X4_isWord_6_26 (x2 : Int32) (μ : gM) : Option ((Int32) ⊕ ((Unit) ⊕ (Bool))) :=
  if ((4 : Int32) ≤ x2) then some (.inr (.inl ())) else gchk (gIn ((gi μ 1 3) + x2) 1200) (gchk (gIn x2 4) (if ((gi μ 2 ((gi μ 1 3) + x2).toNatClampNeg) = (sc 6 x2.toNatClampNeg)) then some (.inl (x2 + (1 : Int32))) else some (.inr (.inr false))))
set_option maxHeartbeats 4000000 in
set_option maxRecDepth 100000 in
theorem wb_X4_isWord_6_26 {p : Program} {l : Launch} {e : Env} {s : State} {m : MethodId} {args : Array Value} {below : List Frame} {meth : Method} {c : Code} {D : va_G} {cy : Nat → ClassId} {ad : Nat → Nat} {base : gBs} {x2 : Int32} {μ : gM} {o : (Int32) ⊕ ((Unit) ⊕ (Bool))} {RES : Bool} (h : b_X4_isWord_6_26 x2 μ = some o) (F : gF p s m meth c cX4_isWord RX4 3 (some .boolean)) (E : gEnv l D cy ad base s) (kc : ∀ (t : Int32) {H : Heap} {locs : List Loc} {ls : Array Slot}, o = .inl t → gW gFull D cy ad base μ H → va_S (gA base) s.heap H locs → lv_has ls 3 [(0, .ref (ad 1)), (1, .ref (ad (100 + 6))), (2, .int t)] → W p l e ({ frames := 0, cells := 0, slots := 0, locals := 0 } : Room) s m args below meth c H locs 0 0 (MQ below (gQ (some (.int (b2i RES))) gFull D cy ad base μ) args s 0 0 (gA base)) (F0 m 26 ls [])) (kx : ∀ (t : Unit) {H : Heap} {locs : List Loc} {ls : Array Slot}, o = .inr (.inl t) → gW gFull D cy ad base μ H → va_S (gA base) s.heap H locs → lv_has ls 3 [] → W p l e ({ frames := 0, cells := 0, slots := 0, locals := 0 } : Room) s m args below meth c H locs 0 0 (MQ below (gQ (some (.int (b2i RES))) gFull D cy ad base μ) args s 0 0 (gA base)) (F0 m 57 ls [])) (kr : ∀ x : Bool, o = .inr (.inr x) → x = RES) {H : Heap} {locs : List Loc} {ls : Array Slot} (hM : gW gFull D cy ad base μ H) (hS : va_S (gA base) s.heap H locs) (hl : lv_has ls 3 [(0, .ref (ad 1)), (1, .ref (ad (100 + 6))), (2, .int x2)]) : W p l e ({ frames := 0, cells := 0, slots := 0, locals := 0 } : Room) s m args below meth c H locs 0 0 (MQ below (gQ (some (.int (b2i RES))) gFull D cy ad base μ) args s 0 0 (gA base)) (F0 m 26 ls []) := by
  obtain ⟨hx, hb, hml, hown, hlocks, hr⟩ := id F
  unfold b_X4_isWord_6_26 at h
  refine lv_iload_n hx hb dX4_isWord_26 rfl (lv_at hl 2 rfl) ?_
  refine lv_aload_n hx hb dX4_isWord_27 rfl (lv_at hl 1 rfl) ?_
  refine g_stl hx hb E hS 6 (by decide) (n := 4) rfl (v := (4 : Int32)) (by decide) dX4_isWord_28 ?_
  refine lv_icmp_ge (tgt := 57) hx hb dX4_isWord_29 (by decide) (fun c3 => ?_) (fun c3 => ?_)
  · replace h := gif_t c3 h
    exact kx _ (Option.some.inj h).symm hM hS (lv_sub hl [] rfl)
  · replace h := gif_f c3 h
    refine lv_aload_n hx hb dX4_isWord_32 rfl (lv_at hl 0 rfl) ?_
    refine gg_1_0 hx hb hown E hM hk_1 kw_174 dX4_isWord_33 ?_
    refine lv_aload_n hx hb dX4_isWord_36 rfl (lv_at hl 0 rfl) ?_
    refine gg_1_3 hx hb hown E hM hk_1 kw_179 dX4_isWord_37 ?_
    refine lv_iload_n hx hb dX4_isWord_40 rfl (lv_at hl 2 rfl) ?_
    refine lv_iadd hx hb dX4_isWord_41 ?_
    obtain ⟨c4, h⟩ := gchk_e h
    refine g_bald hx hb E hM hk_2 dd_2 c4 dX4_isWord_42 ?_
    refine lv_aload_n hx hb dX4_isWord_43 rfl (lv_at hl 1 rfl) ?_
    refine lv_iload_n hx hb dX4_isWord_44 rfl (lv_at hl 2 rfl) ?_
    obtain ⟨c5, h⟩ := gchk_e h
    refine g_stc hx hb E hS 6 (n := 4) (by decide) rfl rfl c5 dX4_isWord_45 ?_
    refine lv_icmp_eq (tgt := 51) hx hb dX4_isWord_46 (by decide) (fun c6 => ?_) (fun c6 => ?_)
    · replace h := gif_t c6 h
      refine lv_iinc (v := (x2 + (1 : Int32))) (lv' := [(2, .int (x2 + (1 : Int32))), (0, .ref (ad 1)), (1, .ref (ad (100 + 6)))]) hx hb dX4_isWord_51 hl (k := 2) rfl rfl (by decide) rfl (fun ls hl => ?_)
      refine lv_goto (tgt := 26) hx hb dX4_isWord_54 (by decide) ?_
      exact kc _ (Option.some.inj h).symm hM hS (lv_sub hl [1, 2, 0] rfl)
    · replace h := gif_f c6 h
      refine lv_iconst (v := (0 : Int32)) hx hb dX4_isWord_49 (by decide) ?_
      obtain rfl := kr _ (Option.some.inj h).symm
      exact g_zret (v := b2i false) hx hb hr hlocks (b2i_nar false) hM hS dX4_isWord_50
set_option maxHeartbeats 4000000 in
theorem wl_X4_isWord_6_26 {p : Program} {l : Launch} {e : Env} {s : State} {m : MethodId} {args : Array Value} {below : List Frame} {meth : Method} {c : Code} {D : va_G} {cy : Nat → ClassId} {ad : Nat → Nat} {base : gBs}  {μ : gM} {r : (Unit) ⊕ (Bool)} {RES : Bool} (F : gF p s m meth c cX4_isWord RX4 3 (some .boolean)) (E : gEnv l D cy ad base s) (kx : ∀ (t : Unit) {H : Heap} {locs : List Loc} {ls : Array Slot}, r = .inl t → gW gFull D cy ad base μ H → va_S (gA base) s.heap H locs → lv_has ls 3 [] → W p l e ({ frames := 0, cells := 0, slots := 0, locals := 0 } : Room) s m args below meth c H locs 0 0 (MQ below (gQ (some (.int (b2i RES))) gFull D cy ad base μ) args s 0 0 (gA base)) (F0 m 57 ls [])) (kr : ∀ x : Bool, r = .inr x → x = RES) : ∀ (n : Nat) (x2 : Int32), gloop (fun t => b_X4_isWord_6_26  t μ) n x2 = some r → ∀ {H : Heap} {locs : List Loc} {ls : Array Slot}, gW gFull D cy ad base μ H → va_S (gA base) s.heap H locs → lv_has ls 3 [(0, .ref (ad 1)), (1, .ref (ad (100 + 6))), (2, .int x2)] → W p l e ({ frames := 0, cells := 0, slots := 0, locals := 0 } : Room) s m args below meth c H locs 0 0 (MQ below (gQ (some (.int (b2i RES))) gFull D cy ad base μ) args s 0 0 (gA base)) (F0 m 26 ls []) := by
  intro n
  induction n with
  | zero =>
    intro x2 h
    exact (gloop_0 h).elim
  | succ n ih =>
    intro x2 h H locs ls hM hS hl
    obtain ⟨o, h0, hc, hq⟩ := gloop_s h
    have h1 : b_X4_isWord_6_26 x2 μ = some o := h0
    exact wb_X4_isWord_6_26 h1 F E (fun t H locs ls ho hM hS hl => ih t (hc t ho) hM hS hl) (fun t H locs ls ho hM hS hl => kx t (hq _ ho).symm hM hS hl) (fun x ho => kr x (hq _ ho).symm) hM hS hl
def f_X4_isWord_6 (μ : gM) : Option (Bool) :=
  if ((gi μ 1 5) = (1 : Int32)) then if (((gi μ 1 4) - (gi μ 1 3)) = (4 : Int32)) then Option.bind (gloop (fun t => b_X4_isWord_6_26  t μ) gFuel (0 : Int32)) (fun q7 => Sum.elim (fun t8 => some true) (fun x => some x) q7) else some false else some false
set_option maxHeartbeats 4000000 in
set_option maxRecDepth 100000 in
theorem c_X4_isWord_6 {l : Launch} {D : va_G} {cy : Nat → ClassId} {ad : Nat → Nat} {base : gBs}  {μ : gM} {RES : Bool} (h : f_X4_isWord_6  μ = some RES) : Met l yX4_isWord [.code yX4_isWord cX4_isWord 3 (some .boolean)] ({ frames := 0, cells := 0, slots := 0, locals := 0 } : Room) (va_Pc [.ref (ad 1), .ref (ad (100 + 6))] (gB l gFull D cy ad base μ)) (gQ (some (.int (b2i RES))) gFull D cy ad base μ) 0 0 (gA base) := by
  refine Met.ofW (cc := cX4_isWord) (maxL := 3) (ret := (some .boolean)) (by decide) rfl ?_
  intro p e s m args below meth c s₁ B hml0 hv
  obtain ⟨rfl, E, hM⟩ := hv
  have F : gF p s m meth c cX4_isWord RX4 3 (some .boolean) := gF_of B hml0
  obtain ⟨hx, hb, hml, hown, hlocks, hr⟩ := id F
  have hS : va_S (gA base) s.heap s.heap [] := va_S.rf
  have hl := lv_entry ([.ref (ad 1), .ref (ad (100 + 6))]) (n := 3) (Nat.le_of_ble_eq_true rfl)
  rw [lg_entry_eq]
  generalize (lg_sl ([.ref (ad 1), .ref (ad (100 + 6))]) ++ List.replicate (3 - (lg_sl ([.ref (ad 1), .ref (ad (100 + 6))])).length) Slot.unset).toArray = ls at hl ⊢
  have hl : lv_has ls 3 [(0, .ref (ad 1)), (1, .ref (ad (100 + 6)))] := hl
  unfold f_X4_isWord_6 at h
  refine lv_aload_n hx hb dX4_isWord_0 rfl (lv_at hl 0 rfl) ?_
  refine gg_1_5 hx hb hown E hM hk_1 kw_181 dX4_isWord_1 ?_
  refine lv_iconst (v := (1 : Int32)) hx hb dX4_isWord_4 (by decide) ?_
  refine lv_icmp_ne (tgt := 22) hx hb dX4_isWord_5 (by decide) (fun c1 => ?_) (fun c1 => ?_)
  · replace h := gif_f c1 h
    refine lv_iconst (v := (0 : Int32)) hx hb dX4_isWord_22 (by decide) ?_
    obtain rfl := Option.some.inj h
    exact g_zret (v := b2i false) hx hb hr hlocks (b2i_nar false) hM hS dX4_isWord_23
  · replace h := gif_t c1 h
    refine lv_aload_n hx hb dX4_isWord_8 rfl (lv_at hl 0 rfl) ?_
    refine gg_1_4 hx hb hown E hM hk_1 kw_180 dX4_isWord_9 ?_
    refine lv_aload_n hx hb dX4_isWord_12 rfl (lv_at hl 0 rfl) ?_
    refine gg_1_3 hx hb hown E hM hk_1 kw_179 dX4_isWord_13 ?_
    refine lv_isub hx hb dX4_isWord_16 ?_
    refine lv_aload_n hx hb dX4_isWord_17 rfl (lv_at hl 1 rfl) ?_
    refine g_stl hx hb E hS 6 (by decide) (n := 4) rfl (v := (4 : Int32)) (by decide) dX4_isWord_18 ?_
    refine lv_icmp_eq (tgt := 24) hx hb dX4_isWord_19 (by decide) (fun c2 => ?_) (fun c2 => ?_)
    · replace h := gif_t c2 h
      refine lv_iconst (v := (0 : Int32)) hx hb dX4_isWord_24 (by decide) ?_
      refine lv_istore_n (lv' := [(2, .int (0 : Int32)), (0, .ref (ad 1)), (1, .ref (ad (100 + 6)))]) hx hb dX4_isWord_25 rfl hl (by decide) rfl (fun ls hl => ?_)
      obtain ⟨q7, h1, h⟩ := gbind_e h
      refine wl_X4_isWord_6_26 F E (r := q7) (fun t8 H locs ls e1 hM hS hl => ?_) (fun x ex => ?_) gFuel (0 : Int32) h1 hM hS (lv_sub hl [1, 2, 0] rfl)
      · replace h := gsum_l e1 h
        refine lv_iconst (v := (1 : Int32)) hx hb dX4_isWord_57 (by decide) ?_
        obtain rfl := Option.some.inj h
        exact g_zret (v := b2i true) hx hb hr hlocks (b2i_nar true) hM hS dX4_isWord_58
      · exact Option.some.inj (gsum_r ex h)
    · replace h := gif_f c2 h
      refine lv_iconst (v := (0 : Int32)) hx hb dX4_isWord_22 (by decide) ?_
      obtain rfl := Option.some.inj h
      exact g_zret (v := b2i false) hx hb hr hlocks (b2i_nar false) hM hS dX4_isWord_23
def f_X4_isName (μ : gM) : Option (Bool) :=
  if ((gi μ 1 5) = (1 : Int32)) then if ((6 : Int32) < ((gi μ 1 4) - (gi μ 1 3))) then some false else Option.bind (f_X4_isWord_5  μ) (fun q3 => if ((b2i q3) = 0) then Option.bind (f_X4_isWord_6  μ) (fun q5 => if ((b2i q5) = 0) then Option.bind (f_X4_isWord_7  μ) (fun q7 => if ((b2i q7) = 0) then Option.bind (f_X4_isWord_8  μ) (fun q9 => if ((b2i q9) = 0) then Option.bind (f_X4_isWord_9  μ) (fun q11 => if ((b2i q11) = 0) then Option.bind (f_X4_isWord_10  μ) (fun q13 => if ((b2i q13) = 0) then Option.bind (f_X4_isWord_12  μ) (fun q15 => if ((b2i q15) = 0) then some true else some false) else some false) else some false) else some false) else some false) else some false) else some false) else some false
set_option maxHeartbeats 4000000 in
set_option maxRecDepth 100000 in
theorem c_X4_isName {l : Launch} {D : va_G} {cy : Nat → ClassId} {ad : Nat → Nat} {base : gBs}  {μ : gM} {RES : Bool} (h : f_X4_isName  μ = some RES) : Met l yX4_isName [.code yX4_isName cX4_isName 1 (some .boolean)] ({ frames := 1, cells := 0, slots := 0, locals := 22 } : Room) (va_Pc [.ref (ad 1)] (gB l gFull D cy ad base μ)) (gQ (some (.int (b2i RES))) gFull D cy ad base μ) 0 0 (gA base) := by
  refine Met.ofW (cc := cX4_isName) (maxL := 1) (ret := (some .boolean)) (by decide) rfl ?_
  intro p e s m args below meth c s₁ B hml0 hv
  obtain ⟨rfl, E, hM⟩ := hv
  have F : gF p s m meth c cX4_isName RX4 1 (some .boolean) := gF_of B hml0
  obtain ⟨hx, hb, hml, hown, hlocks, hr⟩ := id F
  have hS : va_S (gA base) s.heap s.heap [] := va_S.rf
  have hl := lv_entry ([.ref (ad 1)]) (n := 1) (Nat.le_of_ble_eq_true rfl)
  rw [lg_entry_eq]
  generalize (lg_sl ([.ref (ad 1)]) ++ List.replicate (1 - (lg_sl ([.ref (ad 1)])).length) Slot.unset).toArray = ls at hl ⊢
  have hl : lv_has ls 1 [(0, .ref (ad 1))] := hl
  unfold f_X4_isName at h
  refine lv_aload_n hx hb dX4_isName_0 rfl (lv_at hl 0 rfl) ?_
  refine gg_1_5 hx hb hown E hM hk_1 kw_181 dX4_isName_1 ?_
  refine lv_iconst (v := (1 : Int32)) hx hb dX4_isName_4 (by decide) ?_
  refine lv_icmp_ne (tgt := 96) hx hb dX4_isName_5 (by decide) (fun c1 => ?_) (fun c1 => ?_)
  · replace h := gif_f c1 h
    refine lv_iconst (v := (0 : Int32)) hx hb dX4_isName_96 (by decide) ?_
    obtain rfl := Option.some.inj h
    exact g_zret (v := b2i false) hx hb hr hlocks (b2i_nar false) hM hS dX4_isName_97
  · replace h := gif_t c1 h
    refine lv_aload_n hx hb dX4_isName_8 rfl (lv_at hl 0 rfl) ?_
    refine gg_1_4 hx hb hown E hM hk_1 kw_180 dX4_isName_9 ?_
    refine lv_aload_n hx hb dX4_isName_12 rfl (lv_at hl 0 rfl) ?_
    refine gg_1_3 hx hb hown E hM hk_1 kw_179 dX4_isName_13 ?_
    refine lv_isub hx hb dX4_isName_16 ?_
    refine lv_bipush (v := (6 : Int32)) hx hb dX4_isName_17 (by decide) ?_
    refine lv_icmp_gt (tgt := 96) hx hb dX4_isName_19 (by decide) (fun c2 => ?_) (fun c2 => ?_)
    · replace h := gif_t c2 h
      refine lv_iconst (v := (0 : Int32)) hx hb dX4_isName_96 (by decide) ?_
      obtain rfl := Option.some.inj h
      exact g_zret (v := b2i false) hx hb hr hlocks (b2i_nar false) hM hS dX4_isName_97
    · replace h := gif_f c2 h
      refine lv_aload_n hx hb dX4_isName_22 rfl (lv_at hl 0 rfl) ?_
      refine g_gets hx hb hown E hS 5 (by decide) (gSt_5) kw_936 dX4_isName_23 ?_
      obtain ⟨q3, hq3, h⟩ := gbind_e h
      refine g_callV (As := [.ref (ad (100 + 5))]) (rest := []) hx hb (hml.trans hl.1.symm) hown E hM hS hy_X4_isWord kw_938 (c_X4_isWord_5 hq3) hk_1 dd_1 rfl rfl rfl (Nat.le_of_ble_eq_true rfl) ⟨Nat.le_of_ble_eq_true rfl, Nat.le_of_ble_eq_true rfl⟩ ⟨Nat.le_of_ble_eq_true rfl, Nat.le_of_ble_eq_true rfl⟩ dX4_isName_26 (fun H locs hM hS => ?_)
      refine lv_if_ne (tgt := 96) hx hb dX4_isName_29 (by decide) (fun c4 => ?_) (fun c4 => ?_)
      · replace h := gif_f c4 h
        refine lv_iconst (v := (0 : Int32)) hx hb dX4_isName_96 (by decide) ?_
        obtain rfl := Option.some.inj h
        exact g_zret (v := b2i false) hx hb hr hlocks (b2i_nar false) hM hS dX4_isName_97
      · replace h := gif_t c4 h
        refine lv_aload_n hx hb dX4_isName_32 rfl (lv_at hl 0 rfl) ?_
        refine g_gets hx hb hown E hS 6 (by decide) (gSt_6) kw_958 dX4_isName_33 ?_
        obtain ⟨q5, hq5, h⟩ := gbind_e h
        refine g_callV (As := [.ref (ad (100 + 6))]) (rest := []) hx hb (hml.trans hl.1.symm) hown E hM hS hy_X4_isWord kw_938 (c_X4_isWord_6 hq5) hk_1 dd_1 rfl rfl rfl (Nat.le_of_ble_eq_true rfl) ⟨Nat.le_of_ble_eq_true rfl, Nat.le_of_ble_eq_true rfl⟩ ⟨Nat.le_of_ble_eq_true rfl, Nat.le_of_ble_eq_true rfl⟩ dX4_isName_36 (fun H locs hM hS => ?_)
        refine lv_if_ne (tgt := 96) hx hb dX4_isName_39 (by decide) (fun c6 => ?_) (fun c6 => ?_)
        · replace h := gif_f c6 h
          refine lv_iconst (v := (0 : Int32)) hx hb dX4_isName_96 (by decide) ?_
          obtain rfl := Option.some.inj h
          exact g_zret (v := b2i false) hx hb hr hlocks (b2i_nar false) hM hS dX4_isName_97
        · replace h := gif_t c6 h
          refine lv_aload_n hx hb dX4_isName_42 rfl (lv_at hl 0 rfl) ?_
          refine g_gets hx hb hown E hS 7 (by decide) (gSt_7) kw_960 dX4_isName_43 ?_
          obtain ⟨q7, hq7, h⟩ := gbind_e h
          refine g_callV (As := [.ref (ad (100 + 7))]) (rest := []) hx hb (hml.trans hl.1.symm) hown E hM hS hy_X4_isWord kw_938 (c_X4_isWord_7 hq7) hk_1 dd_1 rfl rfl rfl (Nat.le_of_ble_eq_true rfl) ⟨Nat.le_of_ble_eq_true rfl, Nat.le_of_ble_eq_true rfl⟩ ⟨Nat.le_of_ble_eq_true rfl, Nat.le_of_ble_eq_true rfl⟩ dX4_isName_46 (fun H locs hM hS => ?_)
          refine lv_if_ne (tgt := 96) hx hb dX4_isName_49 (by decide) (fun c8 => ?_) (fun c8 => ?_)
          · replace h := gif_f c8 h
            refine lv_iconst (v := (0 : Int32)) hx hb dX4_isName_96 (by decide) ?_
            obtain rfl := Option.some.inj h
            exact g_zret (v := b2i false) hx hb hr hlocks (b2i_nar false) hM hS dX4_isName_97
          · replace h := gif_t c8 h
            refine lv_aload_n hx hb dX4_isName_52 rfl (lv_at hl 0 rfl) ?_
            refine g_gets hx hb hown E hS 8 (by decide) (gSt_8) kw_962 dX4_isName_53 ?_
            obtain ⟨q9, hq9, h⟩ := gbind_e h
            refine g_callV (As := [.ref (ad (100 + 8))]) (rest := []) hx hb (hml.trans hl.1.symm) hown E hM hS hy_X4_isWord kw_938 (c_X4_isWord_8 hq9) hk_1 dd_1 rfl rfl rfl (Nat.le_of_ble_eq_true rfl) ⟨Nat.le_of_ble_eq_true rfl, Nat.le_of_ble_eq_true rfl⟩ ⟨Nat.le_of_ble_eq_true rfl, Nat.le_of_ble_eq_true rfl⟩ dX4_isName_56 (fun H locs hM hS => ?_)
            refine lv_if_ne (tgt := 96) hx hb dX4_isName_59 (by decide) (fun c10 => ?_) (fun c10 => ?_)
            · replace h := gif_f c10 h
              refine lv_iconst (v := (0 : Int32)) hx hb dX4_isName_96 (by decide) ?_
              obtain rfl := Option.some.inj h
              exact g_zret (v := b2i false) hx hb hr hlocks (b2i_nar false) hM hS dX4_isName_97
            · replace h := gif_t c10 h
              refine lv_aload_n hx hb dX4_isName_62 rfl (lv_at hl 0 rfl) ?_
              refine g_gets hx hb hown E hS 9 (by decide) (gSt_9) kw_964 dX4_isName_63 ?_
              obtain ⟨q11, hq11, h⟩ := gbind_e h
              refine g_callV (As := [.ref (ad (100 + 9))]) (rest := []) hx hb (hml.trans hl.1.symm) hown E hM hS hy_X4_isWord kw_938 (c_X4_isWord_9 hq11) hk_1 dd_1 rfl rfl rfl (Nat.le_of_ble_eq_true rfl) ⟨Nat.le_of_ble_eq_true rfl, Nat.le_of_ble_eq_true rfl⟩ ⟨Nat.le_of_ble_eq_true rfl, Nat.le_of_ble_eq_true rfl⟩ dX4_isName_66 (fun H locs hM hS => ?_)
              refine lv_if_ne (tgt := 96) hx hb dX4_isName_69 (by decide) (fun c12 => ?_) (fun c12 => ?_)
              · replace h := gif_f c12 h
                refine lv_iconst (v := (0 : Int32)) hx hb dX4_isName_96 (by decide) ?_
                obtain rfl := Option.some.inj h
                exact g_zret (v := b2i false) hx hb hr hlocks (b2i_nar false) hM hS dX4_isName_97
              · replace h := gif_t c12 h
                refine lv_aload_n hx hb dX4_isName_72 rfl (lv_at hl 0 rfl) ?_
                refine g_gets hx hb hown E hS 10 (by decide) (gSt_10) kw_966 dX4_isName_73 ?_
                obtain ⟨q13, hq13, h⟩ := gbind_e h
                refine g_callV (As := [.ref (ad (100 + 10))]) (rest := []) hx hb (hml.trans hl.1.symm) hown E hM hS hy_X4_isWord kw_938 (c_X4_isWord_10 hq13) hk_1 dd_1 rfl rfl rfl (Nat.le_of_ble_eq_true rfl) ⟨Nat.le_of_ble_eq_true rfl, Nat.le_of_ble_eq_true rfl⟩ ⟨Nat.le_of_ble_eq_true rfl, Nat.le_of_ble_eq_true rfl⟩ dX4_isName_76 (fun H locs hM hS => ?_)
                refine lv_if_ne (tgt := 96) hx hb dX4_isName_79 (by decide) (fun c14 => ?_) (fun c14 => ?_)
                · replace h := gif_f c14 h
                  refine lv_iconst (v := (0 : Int32)) hx hb dX4_isName_96 (by decide) ?_
                  obtain rfl := Option.some.inj h
                  exact g_zret (v := b2i false) hx hb hr hlocks (b2i_nar false) hM hS dX4_isName_97
                · replace h := gif_t c14 h
                  refine lv_aload_n hx hb dX4_isName_82 rfl (lv_at hl 0 rfl) ?_
                  refine g_gets hx hb hown E hS 12 (by decide) (gSt_12) kw_968 dX4_isName_83 ?_
                  obtain ⟨q15, hq15, h⟩ := gbind_e h
                  refine g_callV (As := [.ref (ad (100 + 12))]) (rest := []) hx hb (hml.trans hl.1.symm) hown E hM hS hy_X4_isWord kw_938 (c_X4_isWord_12 hq15) hk_1 dd_1 rfl rfl rfl (Nat.le_of_ble_eq_true rfl) ⟨Nat.le_of_ble_eq_true rfl, Nat.le_of_ble_eq_true rfl⟩ ⟨Nat.le_of_ble_eq_true rfl, Nat.le_of_ble_eq_true rfl⟩ dX4_isName_86 (fun H locs hM hS => ?_)
                  refine lv_if_ne (tgt := 96) hx hb dX4_isName_89 (by decide) (fun c16 => ?_) (fun c16 => ?_)
                  · replace h := gif_f c16 h
                    refine lv_iconst (v := (0 : Int32)) hx hb dX4_isName_96 (by decide) ?_
                    obtain rfl := Option.some.inj h
                    exact g_zret (v := b2i false) hx hb hr hlocks (b2i_nar false) hM hS dX4_isName_97
                  · replace h := gif_t c16 h
                    refine lv_iconst (v := (1 : Int32)) hx hb dX4_isName_92 (by decide) ?_
                    refine lv_goto (tgt := 97) hx hb dX4_isName_93 (by decide) ?_
                    obtain rfl := Option.some.inj h
                    exact g_zret (v := b2i true) hx hb hr hlocks (b2i_nar true) hM hS dX4_isName_97
def f_X4_isKnownLevel (μ : gM) : Option (Bool × gM) :=
  Option.bind (f_X4_isName  μ) (fun q1 => if ((b2i q1) = 0) then Option.bind (f_X4_fail (-11 : Int32) μ) (fun q7 => some (q7.1, q7.2)) else Option.bind (f_X3b_findLevel (gi μ 1 6) μ) (fun q3 => if (q3 = (-1 : Int32)) then Option.bind (f_X4_fail (-13 : Int32) μ) (fun q5 => if ((b2i q5.1) = 0) then some (false, q5.2) else some (true, q5.2)) else some (true, μ)))
set_option maxHeartbeats 4000000 in
set_option maxRecDepth 100000 in
theorem c_X4_isKnownLevel {l : Launch} {D : va_G} {cy : Nat → ClassId} {ad : Nat → Nat} {base : gBs}  {μ : gM} {RES : Bool × gM} (h : f_X4_isKnownLevel  μ = some RES) : Met l yX4_isKnownLevel [.code yX4_isKnownLevel cX4_isKnownLevel 2 (some .boolean)] ({ frames := 2, cells := 0, slots := 0, locals := 42 } : Room) (va_Pc [.ref (ad 1), .ref (ad 47)] (gB l gFull D cy ad base μ)) (gQ (some (.int (b2i RES.1))) gFull D cy ad base RES.2) 0 0 (gA base) := by
  refine Met.ofW (cc := cX4_isKnownLevel) (maxL := 2) (ret := (some .boolean)) (by decide) rfl ?_
  intro p e s m args below meth c s₁ B hml0 hv
  obtain ⟨rfl, E, hM⟩ := hv
  have F : gF p s m meth c cX4_isKnownLevel RX4 2 (some .boolean) := gF_of B hml0
  obtain ⟨hx, hb, hml, hown, hlocks, hr⟩ := id F
  have hS : va_S (gA base) s.heap s.heap [] := va_S.rf
  have hl := lv_entry ([.ref (ad 1), .ref (ad 47)]) (n := 2) (Nat.le_of_ble_eq_true rfl)
  rw [lg_entry_eq]
  generalize (lg_sl ([.ref (ad 1), .ref (ad 47)]) ++ List.replicate (2 - (lg_sl ([.ref (ad 1), .ref (ad 47)])).length) Slot.unset).toArray = ls at hl ⊢
  have hl : lv_has ls 2 [(0, .ref (ad 1)), (1, .ref (ad 47))] := hl
  unfold f_X4_isKnownLevel at h
  refine lv_aload_n hx hb dX4_isKnownLevel_0 rfl (lv_at hl 0 rfl) ?_
  obtain ⟨q1, hq1, h⟩ := gbind_e h
  refine g_callV (As := []) (rest := []) hx hb (hml.trans hl.1.symm) hown E hM hS hy_X4_isName kw_954 (c_X4_isName hq1) hk_1 dd_1 rfl rfl rfl (Nat.le_of_ble_eq_true rfl) ⟨Nat.le_of_ble_eq_true rfl, Nat.le_of_ble_eq_true rfl⟩ ⟨Nat.le_of_ble_eq_true rfl, Nat.le_of_ble_eq_true rfl⟩ dX4_isKnownLevel_1 (fun H locs hM hS => ?_)
  refine lv_if_ne (tgt := 14) hx hb dX4_isKnownLevel_4 (by decide) (fun c2 => ?_) (fun c2 => ?_)
  · replace h := gif_f c2 h
    refine lv_aload_n hx hb dX4_isKnownLevel_14 rfl (lv_at hl 1 rfl) ?_
    refine lv_aload_n hx hb dX4_isKnownLevel_15 rfl (lv_at hl 0 rfl) ?_
    refine gg_1_6 hx hb hown E hM hk_1 kw_182 dX4_isKnownLevel_16 ?_
    obtain ⟨q3, hq3, h⟩ := gbind_e h
    refine g_callV (As := [.int (gi μ 1 6)]) (rest := []) hx hb (hml.trans hl.1.symm) hown E hM hS hy_X3_findLevel kw_970 (c_X3b_findLevel hq3) hk_47 dd_47 rfl rfl rfl (Nat.le_of_ble_eq_true rfl) ⟨Nat.le_of_ble_eq_true rfl, Nat.le_of_ble_eq_true rfl⟩ ⟨Nat.le_of_ble_eq_true rfl, Nat.le_of_ble_eq_true rfl⟩ dX4_isKnownLevel_19 (fun H locs hM hS => ?_)
    refine lv_iconst (v := (-1 : Int32)) hx hb dX4_isKnownLevel_22 (by decide) ?_
    refine lv_icmp_ne (tgt := 35) hx hb dX4_isKnownLevel_23 (by decide) (fun c4 => ?_) (fun c4 => ?_)
    · replace h := gif_f c4 h
      refine lv_iconst (v := (1 : Int32)) hx hb dX4_isKnownLevel_35 (by decide) ?_
      refine lv_goto (tgt := 40) hx hb dX4_isKnownLevel_36 (by decide) ?_
      obtain rfl := Option.some.inj h
      exact g_zret (v := b2i true) hx hb hr hlocks (b2i_nar true) hM hS dX4_isKnownLevel_40
    · replace h := gif_t c4 h
      refine lv_aload_n hx hb dX4_isKnownLevel_26 rfl (lv_at hl 0 rfl) ?_
      refine lv_bipush (v := (-13 : Int32)) hx hb dX4_isKnownLevel_27 (by decide) ?_
      obtain ⟨q5, hq5, h⟩ := gbind_e h
      refine g_callV (As := [.int (-13 : Int32)]) (rest := []) hx hb (hml.trans hl.1.symm) hown E hM hS hy_X4_fail kw_946 (c_X4_fail hq5) hk_1 dd_1 rfl rfl rfl (Nat.le_of_ble_eq_true rfl) ⟨Nat.le_of_ble_eq_true rfl, Nat.le_of_ble_eq_true rfl⟩ ⟨Nat.le_of_ble_eq_true rfl, Nat.le_of_ble_eq_true rfl⟩ dX4_isKnownLevel_29 (fun H locs hM hS => ?_)
      refine lv_if_eq (tgt := 39) hx hb dX4_isKnownLevel_32 (by decide) (fun c6 => ?_) (fun c6 => ?_)
      · replace h := gif_t c6 h
        refine lv_iconst (v := (0 : Int32)) hx hb dX4_isKnownLevel_39 (by decide) ?_
        obtain rfl := Option.some.inj h
        exact g_zret (v := b2i false) hx hb hr hlocks (b2i_nar false) hM hS dX4_isKnownLevel_40
      · replace h := gif_f c6 h
        refine lv_iconst (v := (1 : Int32)) hx hb dX4_isKnownLevel_35 (by decide) ?_
        refine lv_goto (tgt := 40) hx hb dX4_isKnownLevel_36 (by decide) ?_
        obtain rfl := Option.some.inj h
        exact g_zret (v := b2i true) hx hb hr hlocks (b2i_nar true) hM hS dX4_isKnownLevel_40
  · replace h := gif_t c2 h
    refine lv_aload_n hx hb dX4_isKnownLevel_7 rfl (lv_at hl 0 rfl) ?_
    refine lv_bipush (v := (-11 : Int32)) hx hb dX4_isKnownLevel_8 (by decide) ?_
    obtain ⟨q7, hq7, h⟩ := gbind_e h
    refine g_callV (As := [.int (-11 : Int32)]) (rest := []) hx hb (hml.trans hl.1.symm) hown E hM hS hy_X4_fail kw_946 (c_X4_fail hq7) hk_1 dd_1 rfl rfl rfl (Nat.le_of_ble_eq_true rfl) ⟨Nat.le_of_ble_eq_true rfl, Nat.le_of_ble_eq_true rfl⟩ ⟨Nat.le_of_ble_eq_true rfl, Nat.le_of_ble_eq_true rfl⟩ dX4_isKnownLevel_10 (fun H locs hM hS => ?_)
    obtain rfl := Option.some.inj h
    exact g_zret hx hb hr hlocks (b2i_nar _) hM hS dX4_isKnownLevel_13
def b_X4_readFour_59_2 (x2 : Int32) (x3 : Int32) (μ : gM) : Option ((Int32 × gM) ⊕ ((gM) ⊕ (Bool × gM))) :=
  if ((4 : Int32) ≤ x3) then some (.inr (.inl μ)) else gchk (gIn x3 4) (gchk (gIn x3 4) (Option.bind (f_X4_isIntegerIn (sc 0 x3.toNatClampNeg) (sc 1 x3.toNatClampNeg) μ) (fun q4 => if ((b2i q4.1) = 0) then some (.inr (.inr (false, q4.2))) else gchk (gIn (x2 + x3) 48) (Option.bind (f_X4_advance  (si q4.2 59 (x2 + x3).toNatClampNeg (gi q4.2 1 7))) (fun q7 => some (.inl ((x3 + (1 : Int32)), q7)))))))
set_option maxHeartbeats 4000000 in
set_option maxRecDepth 100000 in
theorem wb_X4_readFour_59_2 {p : Program} {l : Launch} {e : Env} {s : State} {m : MethodId} {args : Array Value} {below : List Frame} {meth : Method} {c : Code} {D : va_G} {cy : Nat → ClassId} {ad : Nat → Nat} {base : gBs} {x2 : Int32} {x3 : Int32} {μ : gM} {o : (Int32 × gM) ⊕ ((gM) ⊕ (Bool × gM))} {RES : Bool × gM} (h : b_X4_readFour_59_2 x2 x3 μ = some o) (F : gF p s m meth c cX4_readFour RX4 4 (some .boolean)) (E : gEnv l D cy ad base s) (kc : ∀ (t : Int32 × gM) {H : Heap} {locs : List Loc} {ls : Array Slot}, o = .inl t → gW gFull D cy ad base t.2 H → va_S (gA base) s.heap H locs → lv_has ls 4 [(0, .ref (ad 1)), (1, .ref (ad 59)), (2, .int x2), (3, .int t.1)] → W p l e ({ frames := 2, cells := 0, slots := 0, locals := 43 } : Room) s m args below meth c H locs 0 0 (MQ below (gQ (some (.int (b2i RES.1))) gFull D cy ad base RES.2) args s 0 0 (gA base)) (F0 m 2 ls [])) (kx : ∀ (t : gM) {H : Heap} {locs : List Loc} {ls : Array Slot}, o = .inr (.inl t) → gW gFull D cy ad base t H → va_S (gA base) s.heap H locs → lv_has ls 4 [] → W p l e ({ frames := 2, cells := 0, slots := 0, locals := 43 } : Room) s m args below meth c H locs 0 0 (MQ below (gQ (some (.int (b2i RES.1))) gFull D cy ad base RES.2) args s 0 0 (gA base)) (F0 m 45 ls [])) (kr : ∀ x : Bool × gM, o = .inr (.inr x) → x = RES) {H : Heap} {locs : List Loc} {ls : Array Slot} (hM : gW gFull D cy ad base μ H) (hS : va_S (gA base) s.heap H locs) (hl : lv_has ls 4 [(0, .ref (ad 1)), (1, .ref (ad 59)), (2, .int x2), (3, .int x3)]) : W p l e ({ frames := 2, cells := 0, slots := 0, locals := 43 } : Room) s m args below meth c H locs 0 0 (MQ below (gQ (some (.int (b2i RES.1))) gFull D cy ad base RES.2) args s 0 0 (gA base)) (F0 m 2 ls []) := by
  obtain ⟨hx, hb, hml, hown, hlocks, hr⟩ := id F
  unfold b_X4_readFour_59_2 at h
  refine lv_iload_n hx hb dX4_readFour_2 rfl (lv_at hl 3 rfl) ?_
  refine lv_iconst (v := (4 : Int32)) hx hb dX4_readFour_3 (by decide) ?_
  refine lv_icmp_ge (tgt := 45) hx hb dX4_readFour_4 (by decide) (fun c1 => ?_) (fun c1 => ?_)
  · replace h := gif_t c1 h
    exact kx _ (Option.some.inj h).symm hM hS (lv_sub hl [] rfl)
  · replace h := gif_f c1 h
    refine lv_aload_n hx hb dX4_readFour_7 rfl (lv_at hl 0 rfl) ?_
    refine g_getsN hx hb hown E hS 0 (by decide) (gSt_0) E.2.2.2.2.2.1 dX4_readFour_8 ?_
    refine lv_iload_n hx hb dX4_readFour_11 rfl (lv_at hl 3 rfl) ?_
    obtain ⟨c2, h⟩ := gchk_e h
    refine g_sti hx hb E hS 0 (n := 4) (by decide) rfl rfl c2 dX4_readFour_12 ?_
    refine g_getsN hx hb hown E hS 1 (by decide) (gSt_1) E.2.2.2.2.2.2.1 dX4_readFour_13 ?_
    refine lv_iload_n hx hb dX4_readFour_16 rfl (lv_at hl 3 rfl) ?_
    obtain ⟨c3, h⟩ := gchk_e h
    refine g_sti hx hb E hS 1 (n := 4) (by decide) rfl rfl c3 dX4_readFour_17 ?_
    obtain ⟨q4, hq4, h⟩ := gbind_e h
    refine g_callV (As := [.int (sc 0 x3.toNatClampNeg), .int (sc 1 x3.toNatClampNeg)]) (rest := []) hx hb (hml.trans hl.1.symm) hown E hM hS hy_X4_isIntegerIn kw_978 (c_X4_isIntegerIn hq4) hk_1 dd_1 rfl rfl rfl (Nat.le_of_ble_eq_true rfl) ⟨Nat.le_of_ble_eq_true rfl, Nat.le_of_ble_eq_true rfl⟩ ⟨Nat.le_of_ble_eq_true rfl, Nat.le_of_ble_eq_true rfl⟩ dX4_readFour_18 (fun H locs hM hS => ?_)
    refine lv_if_ne (tgt := 26) hx hb dX4_readFour_21 (by decide) (fun c5 => ?_) (fun c5 => ?_)
    · replace h := gif_f c5 h
      refine lv_aload_n hx hb dX4_readFour_26 rfl (lv_at hl 1 rfl) ?_
      refine lv_iload_n hx hb dX4_readFour_27 rfl (lv_at hl 2 rfl) ?_
      refine lv_iload_n hx hb dX4_readFour_28 rfl (lv_at hl 3 rfl) ?_
      refine lv_iadd hx hb dX4_readFour_29 ?_
      refine lv_aload_n hx hb dX4_readFour_30 rfl (lv_at hl 0 rfl) ?_
      refine gg_1_7 hx hb hown E hM hk_1 kw_183 dX4_readFour_31 ?_
      obtain ⟨c6, h⟩ := gchk_e h
      refine g_iast hx hb E hM hS hk_59 dd_59 c6 dX4_readFour_34 (fun H locs hM hS => ?_)
      refine lv_aload_n hx hb dX4_readFour_35 rfl (lv_at hl 0 rfl) ?_
      obtain ⟨q7, hq7, h⟩ := gbind_e h
      refine g_callV (As := []) (rest := []) hx hb (hml.trans hl.1.symm) hown E hM hS hy_X4_advance kw_919 (c_X4_advance hq7) hk_1 dd_1 rfl rfl rfl (Nat.le_of_ble_eq_true rfl) ⟨Nat.le_of_ble_eq_true rfl, Nat.le_of_ble_eq_true rfl⟩ ⟨Nat.le_of_ble_eq_true rfl, Nat.le_of_ble_eq_true rfl⟩ dX4_readFour_36 (fun H locs hM hS => ?_)
      refine lv_iinc (v := (x3 + (1 : Int32))) (lv' := [(3, .int (x3 + (1 : Int32))), (0, .ref (ad 1)), (1, .ref (ad 59)), (2, .int x2)]) hx hb dX4_readFour_39 hl (k := 3) rfl rfl (by decide) rfl (fun ls hl => ?_)
      refine lv_goto (tgt := 2) hx hb dX4_readFour_42 (by decide) ?_
      exact kc _ (Option.some.inj h).symm hM hS (lv_sub hl [1, 2, 3, 0] rfl)
    · replace h := gif_t c5 h
      refine lv_iconst (v := (0 : Int32)) hx hb dX4_readFour_24 (by decide) ?_
      obtain rfl := kr _ (Option.some.inj h).symm
      exact g_zret (v := b2i false) hx hb hr hlocks (b2i_nar false) hM hS dX4_readFour_25
set_option maxHeartbeats 4000000 in
theorem wl_X4_readFour_59_2 {p : Program} {l : Launch} {e : Env} {s : State} {m : MethodId} {args : Array Value} {below : List Frame} {meth : Method} {c : Code} {D : va_G} {cy : Nat → ClassId} {ad : Nat → Nat} {base : gBs} {x2 : Int32} {r : (gM) ⊕ (Bool × gM)} {RES : Bool × gM} (F : gF p s m meth c cX4_readFour RX4 4 (some .boolean)) (E : gEnv l D cy ad base s) (kx : ∀ (t : gM) {H : Heap} {locs : List Loc} {ls : Array Slot}, r = .inl t → gW gFull D cy ad base t H → va_S (gA base) s.heap H locs → lv_has ls 4 [] → W p l e ({ frames := 2, cells := 0, slots := 0, locals := 43 } : Room) s m args below meth c H locs 0 0 (MQ below (gQ (some (.int (b2i RES.1))) gFull D cy ad base RES.2) args s 0 0 (gA base)) (F0 m 45 ls [])) (kr : ∀ x : Bool × gM, r = .inr x → x = RES) : ∀ (n : Nat) (x3 : Int32) (μ : gM), gloop (fun t => b_X4_readFour_59_2 x2 t.1 t.2) n (x3, μ) = some r → ∀ {H : Heap} {locs : List Loc} {ls : Array Slot}, gW gFull D cy ad base μ H → va_S (gA base) s.heap H locs → lv_has ls 4 [(0, .ref (ad 1)), (1, .ref (ad 59)), (2, .int x2), (3, .int x3)] → W p l e ({ frames := 2, cells := 0, slots := 0, locals := 43 } : Room) s m args below meth c H locs 0 0 (MQ below (gQ (some (.int (b2i RES.1))) gFull D cy ad base RES.2) args s 0 0 (gA base)) (F0 m 2 ls []) := by
  intro n
  induction n with
  | zero =>
    intro x3 μ h
    exact (gloop_0 h).elim
  | succ n ih =>
    intro x3 μ h H locs ls hM hS hl
    obtain ⟨o, h0, hc, hq⟩ := gloop_s h
    have h1 : b_X4_readFour_59_2 x2 x3 μ = some o := h0
    exact wb_X4_readFour_59_2 h1 F E (fun t H locs ls ho hM hS hl => ih t.1 t.2 (hc t ho) hM hS hl) (fun t H locs ls ho hM hS hl => kx t (hq _ ho).symm hM hS hl) (fun x ho => kr x (hq _ ho).symm) hM hS hl
def f_X4_readFour_59 (p2 : Int32) (μ : gM) : Option (Bool × gM) :=
  Option.bind (gloop (fun t => b_X4_readFour_59_2 p2 t.1 t.2) gFuel ((0 : Int32), μ)) (fun q8 => Sum.elim (fun t9 => some (true, t9)) (fun x => some x) q8)
set_option maxHeartbeats 4000000 in
set_option maxRecDepth 100000 in
theorem c_X4_readFour_59 {l : Launch} {D : va_G} {cy : Nat → ClassId} {ad : Nat → Nat} {base : gBs} {p2 : Int32} {μ : gM} {RES : Bool × gM} (h : f_X4_readFour_59 p2 μ = some RES) : Met l yX4_readFour [.code yX4_readFour cX4_readFour 4 (some .boolean)] ({ frames := 2, cells := 0, slots := 0, locals := 43 } : Room) (va_Pc [.ref (ad 1), .ref (ad 59), .int p2] (gB l gFull D cy ad base μ)) (gQ (some (.int (b2i RES.1))) gFull D cy ad base RES.2) 0 0 (gA base) := by
  refine Met.ofW (cc := cX4_readFour) (maxL := 4) (ret := (some .boolean)) (by decide) rfl ?_
  intro p e s m args below meth c s₁ B hml0 hv
  obtain ⟨rfl, E, hM⟩ := hv
  have F : gF p s m meth c cX4_readFour RX4 4 (some .boolean) := gF_of B hml0
  obtain ⟨hx, hb, hml, hown, hlocks, hr⟩ := id F
  have hS : va_S (gA base) s.heap s.heap [] := va_S.rf
  have hl := lv_entry ([.ref (ad 1), .ref (ad 59), .int p2]) (n := 4) (Nat.le_of_ble_eq_true rfl)
  rw [lg_entry_eq]
  generalize (lg_sl ([.ref (ad 1), .ref (ad 59), .int p2]) ++ List.replicate (4 - (lg_sl ([.ref (ad 1), .ref (ad 59), .int p2])).length) Slot.unset).toArray = ls at hl ⊢
  have hl : lv_has ls 4 [(0, .ref (ad 1)), (1, .ref (ad 59)), (2, .int p2)] := hl
  unfold f_X4_readFour_59 at h
  refine lv_iconst (v := (0 : Int32)) hx hb dX4_readFour_0 (by decide) ?_
  refine lv_istore_n (lv' := [(3, .int (0 : Int32)), (0, .ref (ad 1)), (1, .ref (ad 59)), (2, .int p2)]) hx hb dX4_readFour_1 rfl hl (by decide) rfl (fun ls hl => ?_)
  obtain ⟨q8, h1, h⟩ := gbind_e h
  refine wl_X4_readFour_59_2 F E (r := q8) (fun t9 H locs ls e1 hM hS hl => ?_) (fun x ex => ?_) gFuel (0 : Int32) μ h1 hM hS (lv_sub hl [1, 2, 3, 0] rfl)
  · replace h := gsum_l e1 h
    refine lv_iconst (v := (1 : Int32)) hx hb dX4_readFour_45 (by decide) ?_
    obtain rfl := Option.some.inj h
    exact g_zret (v := b2i true) hx hb hr hlocks (b2i_nar true) hM hS dX4_readFour_46
  · exact Option.some.inj (gsum_r ex h)
def f_X4_readTest (μ : gM) : Option (Bool × gM) :=
  if ((gi μ 47 3) < (6 : Int32)) then Option.bind (f_X4_advance  μ) (fun q2 => Option.bind (f_X4_isKnownLevel  q2) (fun q3 => if ((b2i q3.1) = 0) then some (false, q3.2) else Option.bind (f_X3b_findLevel (gi q3.2 1 6) q3.2) (fun q5 => gchk (gIn (gi μ 47 3) 6) (Option.bind (f_X4_advance  (si q3.2 58 (gi μ 47 3).toNatClampNeg q5)) (fun q7 => Option.bind (f_X4_readFour_59 (((gi μ 47 3) * (2 : Int32)) * (4 : Int32)) q7) (fun q8 => if ((b2i q8.1) = 0) then some (false, q8.2) else Option.bind (f_X4_readFour_59 ((((gi μ 47 3) * (2 : Int32)) * (4 : Int32)) + (4 : Int32)) q8.2) (fun q10 => if ((b2i q10.1) = 0) then some (false, q10.2) else some (true, (si q10.2 47 3 ((gi q10.2 47 3) + (1 : Int32))))))))))) else Option.bind (f_X4_fail (-15 : Int32) μ) (fun q12 => some (q12.1, q12.2))
set_option maxHeartbeats 4000000 in
set_option maxRecDepth 100000 in
theorem c_X4_readTest {l : Launch} {D : va_G} {cy : Nat → ClassId} {ad : Nat → Nat} {base : gBs}  {μ : gM} {RES : Bool × gM} (h : f_X4_readTest  μ = some RES) : Met l yX4_readTest [.code yX4_readTest cX4_readTest 4 (some .boolean)] ({ frames := 3, cells := 0, slots := 0, locals := 66 } : Room) (va_Pc [.ref (ad 1), .ref (ad 47)] (gB l gFull D cy ad base μ)) (gQ (some (.int (b2i RES.1))) gFull D cy ad base RES.2) 0 0 (gA base) := by
  refine Met.ofW (cc := cX4_readTest) (maxL := 4) (ret := (some .boolean)) (by decide) rfl ?_
  intro p e s m args below meth c s₁ B hml0 hv
  obtain ⟨rfl, E, hM⟩ := hv
  have F : gF p s m meth c cX4_readTest RX4 4 (some .boolean) := gF_of B hml0
  obtain ⟨hx, hb, hml, hown, hlocks, hr⟩ := id F
  have hS : va_S (gA base) s.heap s.heap [] := va_S.rf
  have hl := lv_entry ([.ref (ad 1), .ref (ad 47)]) (n := 4) (Nat.le_of_ble_eq_true rfl)
  rw [lg_entry_eq]
  generalize (lg_sl ([.ref (ad 1), .ref (ad 47)]) ++ List.replicate (4 - (lg_sl ([.ref (ad 1), .ref (ad 47)])).length) Slot.unset).toArray = ls at hl ⊢
  have hl : lv_has ls 4 [(0, .ref (ad 1)), (1, .ref (ad 47))] := hl
  unfold f_X4_readTest at h
  refine lv_aload_n hx hb dX4_readTest_0 rfl (lv_at hl 1 rfl) ?_
  refine gg_47_3 hx hb hown E hM hk_47 kw_406 dX4_readTest_1 ?_
  refine lv_istore_n (lv' := [(2, .int (gi μ 47 3)), (0, .ref (ad 1)), (1, .ref (ad 47))]) hx hb dX4_readTest_4 rfl hl (by decide) rfl (fun ls hl => ?_)
  refine lv_iload_n hx hb dX4_readTest_5 rfl (lv_at hl 0 rfl) ?_
  refine lv_bipush (v := (6 : Int32)) hx hb dX4_readTest_6 (by decide) ?_
  refine lv_icmp_lt (tgt := 18) hx hb dX4_readTest_8 (by decide) (fun c1 => ?_) (fun c1 => ?_)
  · replace h := gif_t c1 h
    refine lv_aload_n hx hb dX4_readTest_18 rfl (lv_at hl 1 rfl) ?_
    obtain ⟨q2, hq2, h⟩ := gbind_e h
    refine g_callV (As := []) (rest := []) hx hb (hml.trans hl.1.symm) hown E hM hS hy_X4_advance kw_919 (c_X4_advance hq2) hk_1 dd_1 rfl rfl rfl (Nat.le_of_ble_eq_true rfl) ⟨Nat.le_of_ble_eq_true rfl, Nat.le_of_ble_eq_true rfl⟩ ⟨Nat.le_of_ble_eq_true rfl, Nat.le_of_ble_eq_true rfl⟩ dX4_readTest_19 (fun H locs hM hS => ?_)
    refine lv_aload_n hx hb dX4_readTest_22 rfl (lv_at hl 1 rfl) ?_
    refine lv_aload_n hx hb dX4_readTest_23 rfl (lv_at hl 2 rfl) ?_
    obtain ⟨q3, hq3, h⟩ := gbind_e h
    refine g_callV (As := [.ref (ad 47)]) (rest := []) hx hb (hml.trans hl.1.symm) hown E hM hS hy_X4_isKnownLevel kw_994 (c_X4_isKnownLevel hq3) hk_1 dd_1 rfl rfl rfl (Nat.le_of_ble_eq_true rfl) ⟨Nat.le_of_ble_eq_true rfl, Nat.le_of_ble_eq_true rfl⟩ ⟨Nat.le_of_ble_eq_true rfl, Nat.le_of_ble_eq_true rfl⟩ dX4_readTest_24 (fun H locs hM hS => ?_)
    refine lv_if_ne (tgt := 32) hx hb dX4_readTest_27 (by decide) (fun c4 => ?_) (fun c4 => ?_)
    · replace h := gif_f c4 h
      refine lv_aload_n hx hb dX4_readTest_32 rfl (lv_at hl 2 rfl) ?_
      refine gg_47_15 hx hb hown E hM hk_47 kw_448 dX4_readTest_33 ?_
      refine lv_iload_n hx hb dX4_readTest_36 rfl (lv_at hl 0 rfl) ?_
      refine lv_aload_n hx hb dX4_readTest_37 rfl (lv_at hl 2 rfl) ?_
      refine lv_aload_n hx hb dX4_readTest_38 rfl (lv_at hl 1 rfl) ?_
      refine gg_1_6 hx hb hown E hM hk_1 kw_182 dX4_readTest_39 ?_
      obtain ⟨q5, hq5, h⟩ := gbind_e h
      refine g_callV (As := [.int (gi q3.2 1 6)]) (rest := [.int (gi μ 47 3), .ref (ad 58)]) hx hb (hml.trans hl.1.symm) hown E hM hS hy_X3_findLevel kw_970 (c_X3b_findLevel hq5) hk_47 dd_47 rfl rfl rfl (Nat.le_of_ble_eq_true rfl) ⟨Nat.le_of_ble_eq_true rfl, Nat.le_of_ble_eq_true rfl⟩ ⟨Nat.le_of_ble_eq_true rfl, Nat.le_of_ble_eq_true rfl⟩ dX4_readTest_42 (fun H locs hM hS => ?_)
      obtain ⟨c6, h⟩ := gchk_e h
      refine g_iast hx hb E hM hS hk_58 dd_58 c6 dX4_readTest_45 (fun H locs hM hS => ?_)
      refine lv_aload_n hx hb dX4_readTest_46 rfl (lv_at hl 1 rfl) ?_
      obtain ⟨q7, hq7, h⟩ := gbind_e h
      refine g_callV (As := []) (rest := []) hx hb (hml.trans hl.1.symm) hown E hM hS hy_X4_advance kw_919 (c_X4_advance hq7) hk_1 dd_1 rfl rfl rfl (Nat.le_of_ble_eq_true rfl) ⟨Nat.le_of_ble_eq_true rfl, Nat.le_of_ble_eq_true rfl⟩ ⟨Nat.le_of_ble_eq_true rfl, Nat.le_of_ble_eq_true rfl⟩ dX4_readTest_47 (fun H locs hM hS => ?_)
      refine lv_iload_n hx hb dX4_readTest_50 rfl (lv_at hl 0 rfl) ?_
      refine lv_iconst (v := (2 : Int32)) hx hb dX4_readTest_51 (by decide) ?_
      refine lv_imul hx hb dX4_readTest_52 ?_
      refine lv_iconst (v := (4 : Int32)) hx hb dX4_readTest_53 (by decide) ?_
      refine lv_imul hx hb dX4_readTest_54 ?_
      refine lv_istore_n (lv' := [(3, .int (((gi μ 47 3) * (2 : Int32)) * (4 : Int32))), (2, .int (gi μ 47 3)), (0, .ref (ad 1)), (1, .ref (ad 47))]) hx hb dX4_readTest_55 rfl hl (by decide) rfl (fun ls hl => ?_)
      refine lv_aload_n hx hb dX4_readTest_56 rfl (lv_at hl 2 rfl) ?_
      refine lv_aload_n hx hb dX4_readTest_57 rfl (lv_at hl 3 rfl) ?_
      refine gg_47_16 hx hb hown E hM hk_47 kw_450 dX4_readTest_58 ?_
      refine lv_iload_n hx hb dX4_readTest_61 rfl (lv_at hl 0 rfl) ?_
      obtain ⟨q8, hq8, h⟩ := gbind_e h
      refine g_callV (As := [.ref (ad 59), .int (((gi μ 47 3) * (2 : Int32)) * (4 : Int32))]) (rest := []) hx hb (hml.trans hl.1.symm) hown E hM hS hy_X4_readFour kw_999 (c_X4_readFour_59 hq8) hk_1 dd_1 rfl rfl rfl (Nat.le_of_ble_eq_true rfl) ⟨Nat.le_of_ble_eq_true rfl, Nat.le_of_ble_eq_true rfl⟩ ⟨Nat.le_of_ble_eq_true rfl, Nat.le_of_ble_eq_true rfl⟩ dX4_readTest_62 (fun H locs hM hS => ?_)
      refine lv_if_eq (tgt := 82) hx hb dX4_readTest_65 (by decide) (fun c9 => ?_) (fun c9 => ?_)
      · replace h := gif_t c9 h
        refine lv_iconst (v := (0 : Int32)) hx hb dX4_readTest_82 (by decide) ?_
        obtain rfl := Option.some.inj h
        exact g_zret (v := b2i false) hx hb hr hlocks (b2i_nar false) hM hS dX4_readTest_83
      · replace h := gif_f c9 h
        refine lv_aload_n hx hb dX4_readTest_68 rfl (lv_at hl 2 rfl) ?_
        refine lv_aload_n hx hb dX4_readTest_69 rfl (lv_at hl 3 rfl) ?_
        refine gg_47_16 hx hb hown E hM hk_47 kw_450 dX4_readTest_70 ?_
        refine lv_iload_n hx hb dX4_readTest_73 rfl (lv_at hl 0 rfl) ?_
        refine lv_iconst (v := (4 : Int32)) hx hb dX4_readTest_74 (by decide) ?_
        refine lv_iadd hx hb dX4_readTest_75 ?_
        obtain ⟨q10, hq10, h⟩ := gbind_e h
        refine g_callV (As := [.ref (ad 59), .int ((((gi μ 47 3) * (2 : Int32)) * (4 : Int32)) + (4 : Int32))]) (rest := []) hx hb (hml.trans hl.1.symm) hown E hM hS hy_X4_readFour kw_999 (c_X4_readFour_59 hq10) hk_1 dd_1 rfl rfl rfl (Nat.le_of_ble_eq_true rfl) ⟨Nat.le_of_ble_eq_true rfl, Nat.le_of_ble_eq_true rfl⟩ ⟨Nat.le_of_ble_eq_true rfl, Nat.le_of_ble_eq_true rfl⟩ dX4_readTest_76 (fun H locs hM hS => ?_)
        refine lv_if_ne (tgt := 84) hx hb dX4_readTest_79 (by decide) (fun c11 => ?_) (fun c11 => ?_)
        · replace h := gif_f c11 h
          refine lv_aload_n hx hb dX4_readTest_84 rfl (lv_at hl 3 rfl) ?_
          refine lv_dup hx hb dX4_readTest_85 rfl ?_
          refine gg_47_3 hx hb hown E hM hk_47 kw_406 dX4_readTest_86 ?_
          refine lv_iconst (v := (1 : Int32)) hx hb dX4_readTest_89 (by decide) ?_
          refine lv_iadd hx hb dX4_readTest_90 ?_
          refine gp_47_3 hx hb hown E hM hS hk_47 kw_406 dX4_readTest_91 (fun H locs hM hS => ?_)
          refine lv_iconst (v := (1 : Int32)) hx hb dX4_readTest_94 (by decide) ?_
          obtain rfl := Option.some.inj h
          exact g_zret (v := b2i true) hx hb hr hlocks (b2i_nar true) hM hS dX4_readTest_95
        · replace h := gif_t c11 h
          refine lv_iconst (v := (0 : Int32)) hx hb dX4_readTest_82 (by decide) ?_
          obtain rfl := Option.some.inj h
          exact g_zret (v := b2i false) hx hb hr hlocks (b2i_nar false) hM hS dX4_readTest_83
    · replace h := gif_t c4 h
      refine lv_iconst (v := (0 : Int32)) hx hb dX4_readTest_30 (by decide) ?_
      obtain rfl := Option.some.inj h
      exact g_zret (v := b2i false) hx hb hr hlocks (b2i_nar false) hM hS dX4_readTest_31
  · replace h := gif_f c1 h
    refine lv_aload_n hx hb dX4_readTest_11 rfl (lv_at hl 1 rfl) ?_
    refine lv_bipush (v := (-15 : Int32)) hx hb dX4_readTest_12 (by decide) ?_
    obtain ⟨q12, hq12, h⟩ := gbind_e h
    refine g_callV (As := [.int (-15 : Int32)]) (rest := []) hx hb (hml.trans hl.1.symm) hown E hM hS hy_X4_fail kw_946 (c_X4_fail hq12) hk_1 dd_1 rfl rfl rfl (Nat.le_of_ble_eq_true rfl) ⟨Nat.le_of_ble_eq_true rfl, Nat.le_of_ble_eq_true rfl⟩ ⟨Nat.le_of_ble_eq_true rfl, Nat.le_of_ble_eq_true rfl⟩ dX4_readTest_14 (fun H locs hM hS => ?_)
    obtain rfl := Option.some.inj h
    exact g_zret hx hb hr hlocks (b2i_nar _) hM hS dX4_readTest_17
def f_X4_isKnownPoint (μ : gM) : Option (Bool × gM) :=
  Option.bind (f_X4_isName  μ) (fun q1 => if ((b2i q1) = 0) then Option.bind (f_X4_fail (-11 : Int32) μ) (fun q7 => some (q7.1, q7.2)) else Option.bind (f_X3b_findPoint (gi μ 1 6) μ) (fun q3 => if (q3 = (-1 : Int32)) then Option.bind (f_X4_fail (-13 : Int32) μ) (fun q5 => if ((b2i q5.1) = 0) then some (false, q5.2) else some (true, q5.2)) else some (true, μ)))
set_option maxHeartbeats 4000000 in
set_option maxRecDepth 100000 in
theorem c_X4_isKnownPoint {l : Launch} {D : va_G} {cy : Nat → ClassId} {ad : Nat → Nat} {base : gBs}  {μ : gM} {RES : Bool × gM} (h : f_X4_isKnownPoint  μ = some RES) : Met l yX4_isKnownPoint [.code yX4_isKnownPoint cX4_isKnownPoint 2 (some .boolean)] ({ frames := 2, cells := 0, slots := 0, locals := 42 } : Room) (va_Pc [.ref (ad 1), .ref (ad 47)] (gB l gFull D cy ad base μ)) (gQ (some (.int (b2i RES.1))) gFull D cy ad base RES.2) 0 0 (gA base) := by
  refine Met.ofW (cc := cX4_isKnownPoint) (maxL := 2) (ret := (some .boolean)) (by decide) rfl ?_
  intro p e s m args below meth c s₁ B hml0 hv
  obtain ⟨rfl, E, hM⟩ := hv
  have F : gF p s m meth c cX4_isKnownPoint RX4 2 (some .boolean) := gF_of B hml0
  obtain ⟨hx, hb, hml, hown, hlocks, hr⟩ := id F
  have hS : va_S (gA base) s.heap s.heap [] := va_S.rf
  have hl := lv_entry ([.ref (ad 1), .ref (ad 47)]) (n := 2) (Nat.le_of_ble_eq_true rfl)
  rw [lg_entry_eq]
  generalize (lg_sl ([.ref (ad 1), .ref (ad 47)]) ++ List.replicate (2 - (lg_sl ([.ref (ad 1), .ref (ad 47)])).length) Slot.unset).toArray = ls at hl ⊢
  have hl : lv_has ls 2 [(0, .ref (ad 1)), (1, .ref (ad 47))] := hl
  unfold f_X4_isKnownPoint at h
  refine lv_aload_n hx hb dX4_isKnownPoint_0 rfl (lv_at hl 0 rfl) ?_
  obtain ⟨q1, hq1, h⟩ := gbind_e h
  refine g_callV (As := []) (rest := []) hx hb (hml.trans hl.1.symm) hown E hM hS hy_X4_isName kw_954 (c_X4_isName hq1) hk_1 dd_1 rfl rfl rfl (Nat.le_of_ble_eq_true rfl) ⟨Nat.le_of_ble_eq_true rfl, Nat.le_of_ble_eq_true rfl⟩ ⟨Nat.le_of_ble_eq_true rfl, Nat.le_of_ble_eq_true rfl⟩ dX4_isKnownPoint_1 (fun H locs hM hS => ?_)
  refine lv_if_ne (tgt := 14) hx hb dX4_isKnownPoint_4 (by decide) (fun c2 => ?_) (fun c2 => ?_)
  · replace h := gif_f c2 h
    refine lv_aload_n hx hb dX4_isKnownPoint_14 rfl (lv_at hl 1 rfl) ?_
    refine lv_aload_n hx hb dX4_isKnownPoint_15 rfl (lv_at hl 0 rfl) ?_
    refine gg_1_6 hx hb hown E hM hk_1 kw_182 dX4_isKnownPoint_16 ?_
    obtain ⟨q3, hq3, h⟩ := gbind_e h
    refine g_callV (As := [.int (gi μ 1 6)]) (rest := []) hx hb (hml.trans hl.1.symm) hown E hM hS hy_X3_findPoint kw_974 (c_X3b_findPoint hq3) hk_47 dd_47 rfl rfl rfl (Nat.le_of_ble_eq_true rfl) ⟨Nat.le_of_ble_eq_true rfl, Nat.le_of_ble_eq_true rfl⟩ ⟨Nat.le_of_ble_eq_true rfl, Nat.le_of_ble_eq_true rfl⟩ dX4_isKnownPoint_19 (fun H locs hM hS => ?_)
    refine lv_iconst (v := (-1 : Int32)) hx hb dX4_isKnownPoint_22 (by decide) ?_
    refine lv_icmp_ne (tgt := 35) hx hb dX4_isKnownPoint_23 (by decide) (fun c4 => ?_) (fun c4 => ?_)
    · replace h := gif_f c4 h
      refine lv_iconst (v := (1 : Int32)) hx hb dX4_isKnownPoint_35 (by decide) ?_
      refine lv_goto (tgt := 40) hx hb dX4_isKnownPoint_36 (by decide) ?_
      obtain rfl := Option.some.inj h
      exact g_zret (v := b2i true) hx hb hr hlocks (b2i_nar true) hM hS dX4_isKnownPoint_40
    · replace h := gif_t c4 h
      refine lv_aload_n hx hb dX4_isKnownPoint_26 rfl (lv_at hl 0 rfl) ?_
      refine lv_bipush (v := (-13 : Int32)) hx hb dX4_isKnownPoint_27 (by decide) ?_
      obtain ⟨q5, hq5, h⟩ := gbind_e h
      refine g_callV (As := [.int (-13 : Int32)]) (rest := []) hx hb (hml.trans hl.1.symm) hown E hM hS hy_X4_fail kw_946 (c_X4_fail hq5) hk_1 dd_1 rfl rfl rfl (Nat.le_of_ble_eq_true rfl) ⟨Nat.le_of_ble_eq_true rfl, Nat.le_of_ble_eq_true rfl⟩ ⟨Nat.le_of_ble_eq_true rfl, Nat.le_of_ble_eq_true rfl⟩ dX4_isKnownPoint_29 (fun H locs hM hS => ?_)
      refine lv_if_eq (tgt := 39) hx hb dX4_isKnownPoint_32 (by decide) (fun c6 => ?_) (fun c6 => ?_)
      · replace h := gif_t c6 h
        refine lv_iconst (v := (0 : Int32)) hx hb dX4_isKnownPoint_39 (by decide) ?_
        obtain rfl := Option.some.inj h
        exact g_zret (v := b2i false) hx hb hr hlocks (b2i_nar false) hM hS dX4_isKnownPoint_40
      · replace h := gif_f c6 h
        refine lv_iconst (v := (1 : Int32)) hx hb dX4_isKnownPoint_35 (by decide) ?_
        refine lv_goto (tgt := 40) hx hb dX4_isKnownPoint_36 (by decide) ?_
        obtain rfl := Option.some.inj h
        exact g_zret (v := b2i true) hx hb hr hlocks (b2i_nar true) hM hS dX4_isKnownPoint_40
  · replace h := gif_t c2 h
    refine lv_aload_n hx hb dX4_isKnownPoint_7 rfl (lv_at hl 0 rfl) ?_
    refine lv_bipush (v := (-11 : Int32)) hx hb dX4_isKnownPoint_8 (by decide) ?_
    obtain ⟨q7, hq7, h⟩ := gbind_e h
    refine g_callV (As := [.int (-11 : Int32)]) (rest := []) hx hb (hml.trans hl.1.symm) hown E hM hS hy_X4_fail kw_946 (c_X4_fail hq7) hk_1 dd_1 rfl rfl rfl (Nat.le_of_ble_eq_true rfl) ⟨Nat.le_of_ble_eq_true rfl, Nat.le_of_ble_eq_true rfl⟩ ⟨Nat.le_of_ble_eq_true rfl, Nat.le_of_ble_eq_true rfl⟩ dX4_isKnownPoint_10 (fun H locs hM hS => ?_)
    obtain rfl := Option.some.inj h
    exact g_zret hx hb hr hlocks (b2i_nar _) hM hS dX4_isKnownPoint_13
def b_X4_readFour_57_2 (x2 : Int32) (x3 : Int32) (μ : gM) : Option ((Int32 × gM) ⊕ ((gM) ⊕ (Bool × gM))) :=
  if ((4 : Int32) ≤ x3) then some (.inr (.inl μ)) else gchk (gIn x3 4) (gchk (gIn x3 4) (Option.bind (f_X4_isIntegerIn (sc 0 x3.toNatClampNeg) (sc 1 x3.toNatClampNeg) μ) (fun q4 => if ((b2i q4.1) = 0) then some (.inr (.inr (false, q4.2))) else gchk (gIn (x2 + x3) 640) (Option.bind (f_X4_advance  (si q4.2 57 (x2 + x3).toNatClampNeg (gi q4.2 1 7))) (fun q7 => some (.inl ((x3 + (1 : Int32)), q7)))))))
set_option maxHeartbeats 4000000 in
set_option maxRecDepth 100000 in
theorem wb_X4_readFour_57_2 {p : Program} {l : Launch} {e : Env} {s : State} {m : MethodId} {args : Array Value} {below : List Frame} {meth : Method} {c : Code} {D : va_G} {cy : Nat → ClassId} {ad : Nat → Nat} {base : gBs} {x2 : Int32} {x3 : Int32} {μ : gM} {o : (Int32 × gM) ⊕ ((gM) ⊕ (Bool × gM))} {RES : Bool × gM} (h : b_X4_readFour_57_2 x2 x3 μ = some o) (F : gF p s m meth c cX4_readFour RX4 4 (some .boolean)) (E : gEnv l D cy ad base s) (kc : ∀ (t : Int32 × gM) {H : Heap} {locs : List Loc} {ls : Array Slot}, o = .inl t → gW gFull D cy ad base t.2 H → va_S (gA base) s.heap H locs → lv_has ls 4 [(0, .ref (ad 1)), (1, .ref (ad 57)), (2, .int x2), (3, .int t.1)] → W p l e ({ frames := 2, cells := 0, slots := 0, locals := 43 } : Room) s m args below meth c H locs 0 0 (MQ below (gQ (some (.int (b2i RES.1))) gFull D cy ad base RES.2) args s 0 0 (gA base)) (F0 m 2 ls [])) (kx : ∀ (t : gM) {H : Heap} {locs : List Loc} {ls : Array Slot}, o = .inr (.inl t) → gW gFull D cy ad base t H → va_S (gA base) s.heap H locs → lv_has ls 4 [] → W p l e ({ frames := 2, cells := 0, slots := 0, locals := 43 } : Room) s m args below meth c H locs 0 0 (MQ below (gQ (some (.int (b2i RES.1))) gFull D cy ad base RES.2) args s 0 0 (gA base)) (F0 m 45 ls [])) (kr : ∀ x : Bool × gM, o = .inr (.inr x) → x = RES) {H : Heap} {locs : List Loc} {ls : Array Slot} (hM : gW gFull D cy ad base μ H) (hS : va_S (gA base) s.heap H locs) (hl : lv_has ls 4 [(0, .ref (ad 1)), (1, .ref (ad 57)), (2, .int x2), (3, .int x3)]) : W p l e ({ frames := 2, cells := 0, slots := 0, locals := 43 } : Room) s m args below meth c H locs 0 0 (MQ below (gQ (some (.int (b2i RES.1))) gFull D cy ad base RES.2) args s 0 0 (gA base)) (F0 m 2 ls []) := by
  obtain ⟨hx, hb, hml, hown, hlocks, hr⟩ := id F
  unfold b_X4_readFour_57_2 at h
  refine lv_iload_n hx hb dX4_readFour_2 rfl (lv_at hl 3 rfl) ?_
  refine lv_iconst (v := (4 : Int32)) hx hb dX4_readFour_3 (by decide) ?_
  refine lv_icmp_ge (tgt := 45) hx hb dX4_readFour_4 (by decide) (fun c1 => ?_) (fun c1 => ?_)
  · replace h := gif_t c1 h
    exact kx _ (Option.some.inj h).symm hM hS (lv_sub hl [] rfl)
  · replace h := gif_f c1 h
    refine lv_aload_n hx hb dX4_readFour_7 rfl (lv_at hl 0 rfl) ?_
    refine g_getsN hx hb hown E hS 0 (by decide) (gSt_0) E.2.2.2.2.2.1 dX4_readFour_8 ?_
    refine lv_iload_n hx hb dX4_readFour_11 rfl (lv_at hl 3 rfl) ?_
    obtain ⟨c2, h⟩ := gchk_e h
    refine g_sti hx hb E hS 0 (n := 4) (by decide) rfl rfl c2 dX4_readFour_12 ?_
    refine g_getsN hx hb hown E hS 1 (by decide) (gSt_1) E.2.2.2.2.2.2.1 dX4_readFour_13 ?_
    refine lv_iload_n hx hb dX4_readFour_16 rfl (lv_at hl 3 rfl) ?_
    obtain ⟨c3, h⟩ := gchk_e h
    refine g_sti hx hb E hS 1 (n := 4) (by decide) rfl rfl c3 dX4_readFour_17 ?_
    obtain ⟨q4, hq4, h⟩ := gbind_e h
    refine g_callV (As := [.int (sc 0 x3.toNatClampNeg), .int (sc 1 x3.toNatClampNeg)]) (rest := []) hx hb (hml.trans hl.1.symm) hown E hM hS hy_X4_isIntegerIn kw_978 (c_X4_isIntegerIn hq4) hk_1 dd_1 rfl rfl rfl (Nat.le_of_ble_eq_true rfl) ⟨Nat.le_of_ble_eq_true rfl, Nat.le_of_ble_eq_true rfl⟩ ⟨Nat.le_of_ble_eq_true rfl, Nat.le_of_ble_eq_true rfl⟩ dX4_readFour_18 (fun H locs hM hS => ?_)
    refine lv_if_ne (tgt := 26) hx hb dX4_readFour_21 (by decide) (fun c5 => ?_) (fun c5 => ?_)
    · replace h := gif_f c5 h
      refine lv_aload_n hx hb dX4_readFour_26 rfl (lv_at hl 1 rfl) ?_
      refine lv_iload_n hx hb dX4_readFour_27 rfl (lv_at hl 2 rfl) ?_
      refine lv_iload_n hx hb dX4_readFour_28 rfl (lv_at hl 3 rfl) ?_
      refine lv_iadd hx hb dX4_readFour_29 ?_
      refine lv_aload_n hx hb dX4_readFour_30 rfl (lv_at hl 0 rfl) ?_
      refine gg_1_7 hx hb hown E hM hk_1 kw_183 dX4_readFour_31 ?_
      obtain ⟨c6, h⟩ := gchk_e h
      refine g_iast hx hb E hM hS hk_57 dd_57 c6 dX4_readFour_34 (fun H locs hM hS => ?_)
      refine lv_aload_n hx hb dX4_readFour_35 rfl (lv_at hl 0 rfl) ?_
      obtain ⟨q7, hq7, h⟩ := gbind_e h
      refine g_callV (As := []) (rest := []) hx hb (hml.trans hl.1.symm) hown E hM hS hy_X4_advance kw_919 (c_X4_advance hq7) hk_1 dd_1 rfl rfl rfl (Nat.le_of_ble_eq_true rfl) ⟨Nat.le_of_ble_eq_true rfl, Nat.le_of_ble_eq_true rfl⟩ ⟨Nat.le_of_ble_eq_true rfl, Nat.le_of_ble_eq_true rfl⟩ dX4_readFour_36 (fun H locs hM hS => ?_)
      refine lv_iinc (v := (x3 + (1 : Int32))) (lv' := [(3, .int (x3 + (1 : Int32))), (0, .ref (ad 1)), (1, .ref (ad 57)), (2, .int x2)]) hx hb dX4_readFour_39 hl (k := 3) rfl rfl (by decide) rfl (fun ls hl => ?_)
      refine lv_goto (tgt := 2) hx hb dX4_readFour_42 (by decide) ?_
      exact kc _ (Option.some.inj h).symm hM hS (lv_sub hl [1, 2, 3, 0] rfl)
    · replace h := gif_t c5 h
      refine lv_iconst (v := (0 : Int32)) hx hb dX4_readFour_24 (by decide) ?_
      obtain rfl := kr _ (Option.some.inj h).symm
      exact g_zret (v := b2i false) hx hb hr hlocks (b2i_nar false) hM hS dX4_readFour_25
set_option maxHeartbeats 4000000 in
theorem wl_X4_readFour_57_2 {p : Program} {l : Launch} {e : Env} {s : State} {m : MethodId} {args : Array Value} {below : List Frame} {meth : Method} {c : Code} {D : va_G} {cy : Nat → ClassId} {ad : Nat → Nat} {base : gBs} {x2 : Int32} {r : (gM) ⊕ (Bool × gM)} {RES : Bool × gM} (F : gF p s m meth c cX4_readFour RX4 4 (some .boolean)) (E : gEnv l D cy ad base s) (kx : ∀ (t : gM) {H : Heap} {locs : List Loc} {ls : Array Slot}, r = .inl t → gW gFull D cy ad base t H → va_S (gA base) s.heap H locs → lv_has ls 4 [] → W p l e ({ frames := 2, cells := 0, slots := 0, locals := 43 } : Room) s m args below meth c H locs 0 0 (MQ below (gQ (some (.int (b2i RES.1))) gFull D cy ad base RES.2) args s 0 0 (gA base)) (F0 m 45 ls [])) (kr : ∀ x : Bool × gM, r = .inr x → x = RES) : ∀ (n : Nat) (x3 : Int32) (μ : gM), gloop (fun t => b_X4_readFour_57_2 x2 t.1 t.2) n (x3, μ) = some r → ∀ {H : Heap} {locs : List Loc} {ls : Array Slot}, gW gFull D cy ad base μ H → va_S (gA base) s.heap H locs → lv_has ls 4 [(0, .ref (ad 1)), (1, .ref (ad 57)), (2, .int x2), (3, .int x3)] → W p l e ({ frames := 2, cells := 0, slots := 0, locals := 43 } : Room) s m args below meth c H locs 0 0 (MQ below (gQ (some (.int (b2i RES.1))) gFull D cy ad base RES.2) args s 0 0 (gA base)) (F0 m 2 ls []) := by
  intro n
  induction n with
  | zero =>
    intro x3 μ h
    exact (gloop_0 h).elim
  | succ n ih =>
    intro x3 μ h H locs ls hM hS hl
    obtain ⟨o, h0, hc, hq⟩ := gloop_s h
    have h1 : b_X4_readFour_57_2 x2 x3 μ = some o := h0
    exact wb_X4_readFour_57_2 h1 F E (fun t H locs ls ho hM hS hl => ih t.1 t.2 (hc t ho) hM hS hl) (fun t H locs ls ho hM hS hl => kx t (hq _ ho).symm hM hS hl) (fun x ho => kr x (hq _ ho).symm) hM hS hl
def f_X4_readFour_57 (p2 : Int32) (μ : gM) : Option (Bool × gM) :=
  Option.bind (gloop (fun t => b_X4_readFour_57_2 p2 t.1 t.2) gFuel ((0 : Int32), μ)) (fun q8 => Sum.elim (fun t9 => some (true, t9)) (fun x => some x) q8)
set_option maxHeartbeats 4000000 in
set_option maxRecDepth 100000 in
theorem c_X4_readFour_57 {l : Launch} {D : va_G} {cy : Nat → ClassId} {ad : Nat → Nat} {base : gBs} {p2 : Int32} {μ : gM} {RES : Bool × gM} (h : f_X4_readFour_57 p2 μ = some RES) : Met l yX4_readFour [.code yX4_readFour cX4_readFour 4 (some .boolean)] ({ frames := 2, cells := 0, slots := 0, locals := 43 } : Room) (va_Pc [.ref (ad 1), .ref (ad 57), .int p2] (gB l gFull D cy ad base μ)) (gQ (some (.int (b2i RES.1))) gFull D cy ad base RES.2) 0 0 (gA base) := by
  refine Met.ofW (cc := cX4_readFour) (maxL := 4) (ret := (some .boolean)) (by decide) rfl ?_
  intro p e s m args below meth c s₁ B hml0 hv
  obtain ⟨rfl, E, hM⟩ := hv
  have F : gF p s m meth c cX4_readFour RX4 4 (some .boolean) := gF_of B hml0
  obtain ⟨hx, hb, hml, hown, hlocks, hr⟩ := id F
  have hS : va_S (gA base) s.heap s.heap [] := va_S.rf
  have hl := lv_entry ([.ref (ad 1), .ref (ad 57), .int p2]) (n := 4) (Nat.le_of_ble_eq_true rfl)
  rw [lg_entry_eq]
  generalize (lg_sl ([.ref (ad 1), .ref (ad 57), .int p2]) ++ List.replicate (4 - (lg_sl ([.ref (ad 1), .ref (ad 57), .int p2])).length) Slot.unset).toArray = ls at hl ⊢
  have hl : lv_has ls 4 [(0, .ref (ad 1)), (1, .ref (ad 57)), (2, .int p2)] := hl
  unfold f_X4_readFour_57 at h
  refine lv_iconst (v := (0 : Int32)) hx hb dX4_readFour_0 (by decide) ?_
  refine lv_istore_n (lv' := [(3, .int (0 : Int32)), (0, .ref (ad 1)), (1, .ref (ad 57)), (2, .int p2)]) hx hb dX4_readFour_1 rfl hl (by decide) rfl (fun ls hl => ?_)
  obtain ⟨q8, h1, h⟩ := gbind_e h
  refine wl_X4_readFour_57_2 F E (r := q8) (fun t9 H locs ls e1 hM hS hl => ?_) (fun x ex => ?_) gFuel (0 : Int32) μ h1 hM hS (lv_sub hl [1, 2, 3, 0] rfl)
  · replace h := gsum_l e1 h
    refine lv_iconst (v := (1 : Int32)) hx hb dX4_readFour_45 (by decide) ?_
    obtain rfl := Option.some.inj h
    exact g_zret (v := b2i true) hx hb hr hlocks (b2i_nar true) hM hS dX4_readFour_46
  · exact Option.some.inj (gsum_r ex h)
def j_X4_readLine_172 (x2 : Int32) (x3 : Int32) (μ : gM) : Option ((Int32 × gM) ⊕ ((gM) ⊕ (Bool × gM))) :=
  Option.bind (f_X3b_place x2 x3 μ) (fun q23 => Option.bind (f_X4_readFour_57 q23 μ) (fun q24 => if ((b2i q24.1) = 0) then some (.inr (.inr (false, q24.2))) else gchk (gIn x2 20) (some (.inl ((x3 + (1 : Int32)), (si q24.2 56 x2.toNatClampNeg (x3 + (1 : Int32))))))))
set_option maxHeartbeats 4000000 in
set_option maxRecDepth 100000 in
theorem wj_X4_readLine_172 {p : Program} {l : Launch} {e : Env} {s : State} {m : MethodId} {args : Array Value} {below : List Frame} {meth : Method} {c : Code} {D : va_G} {cy : Nat → ClassId} {ad : Nat → Nat} {base : gBs} {x2 : Int32} {x3 : Int32} {μ : gM} {o : (Int32 × gM) ⊕ ((gM) ⊕ (Bool × gM))} {RES : Bool × gM} (h : j_X4_readLine_172 x2 x3 μ = some o) (F : gF p s m meth c cX4_readLine RX4 4 (some .boolean)) (E : gEnv l D cy ad base s) (kc : ∀ (t : Int32 × gM) {H : Heap} {locs : List Loc} {ls : Array Slot}, o = .inl t → gW gFull D cy ad base t.2 H → va_S (gA base) s.heap H locs → lv_has ls 4 [(0, .ref (ad 1)), (1, .ref (ad 47)), (2, .int x2), (3, .int t.1)] → W p l e ({ frames := 3, cells := 0, slots := 0, locals := 66 } : Room) s m args below meth c H locs 0 0 (MQ below (gQ (some (.int (b2i RES.1))) gFull D cy ad base RES.2) args s 0 0 (gA base)) (F0 m 152 ls [])) (kx : ∀ (t : gM) {H : Heap} {locs : List Loc} {ls : Array Slot}, o = .inr (.inl t) → gW gFull D cy ad base t H → va_S (gA base) s.heap H locs → lv_has ls 4 [(0, .ref (ad 1))] → W p l e ({ frames := 3, cells := 0, slots := 0, locals := 66 } : Room) s m args below meth c H locs 0 0 (MQ below (gQ (some (.int (b2i RES.1))) gFull D cy ad base RES.2) args s 0 0 (gA base)) (F0 m 206 ls [])) (kr : ∀ x : Bool × gM, o = .inr (.inr x) → x = RES) {H : Heap} {locs : List Loc} {ls : Array Slot} (hM : gW gFull D cy ad base μ H) (hS : va_S (gA base) s.heap H locs) (hl : lv_has ls 4 [(0, .ref (ad 1)), (1, .ref (ad 47)), (2, .int x2), (3, .int x3)]) : W p l e ({ frames := 3, cells := 0, slots := 0, locals := 66 } : Room) s m args below meth c H locs 0 0 (MQ below (gQ (some (.int (b2i RES.1))) gFull D cy ad base RES.2) args s 0 0 (gA base)) (F0 m 172 ls []) := by
  obtain ⟨hx, hb, hml, hown, hlocks, hr⟩ := id F
  unfold j_X4_readLine_172 at h
  refine lv_aload_n hx hb dX4_readLine_172 rfl (lv_at hl 0 rfl) ?_
  refine lv_aload_n hx hb dX4_readLine_173 rfl (lv_at hl 1 rfl) ?_
  refine gg_47_14 hx hb hown E hM hk_47 kw_445 dX4_readLine_174 ?_
  refine lv_aload_n hx hb dX4_readLine_177 rfl (lv_at hl 1 rfl) ?_
  refine lv_iload_n hx hb dX4_readLine_178 rfl (lv_at hl 2 rfl) ?_
  refine lv_iload_n hx hb dX4_readLine_179 rfl (lv_at hl 3 rfl) ?_
  obtain ⟨q23, hq23, h⟩ := gbind_e h
  refine g_callV (As := [.int x2, .int x3]) (rest := [.ref (ad 57), .ref (ad 1)]) hx hb (hml.trans hl.1.symm) hown E hM hS hy_X3_place kw_998 (c_X3b_place hq23) hk_47 dd_47 rfl rfl rfl (Nat.le_of_ble_eq_true rfl) ⟨Nat.le_of_ble_eq_true rfl, Nat.le_of_ble_eq_true rfl⟩ ⟨Nat.le_of_ble_eq_true rfl, Nat.le_of_ble_eq_true rfl⟩ dX4_readLine_180 (fun H locs hM hS => ?_)
  obtain ⟨q24, hq24, h⟩ := gbind_e h
  refine g_callV (As := [.ref (ad 57), .int q23]) (rest := []) hx hb (hml.trans hl.1.symm) hown E hM hS hy_X4_readFour kw_999 (c_X4_readFour_57 hq24) hk_1 dd_1 rfl rfl rfl (Nat.le_of_ble_eq_true rfl) ⟨Nat.le_of_ble_eq_true rfl, Nat.le_of_ble_eq_true rfl⟩ ⟨Nat.le_of_ble_eq_true rfl, Nat.le_of_ble_eq_true rfl⟩ dX4_readLine_183 (fun H locs hM hS => ?_)
  refine lv_if_ne (tgt := 191) hx hb dX4_readLine_186 (by decide) (fun c25 => ?_) (fun c25 => ?_)
  · replace h := gif_f c25 h
    refine lv_aload_n hx hb dX4_readLine_191 rfl (lv_at hl 1 rfl) ?_
    refine gg_47_13 hx hb hown E hM hk_47 kw_442 dX4_readLine_192 ?_
    refine lv_iload_n hx hb dX4_readLine_195 rfl (lv_at hl 2 rfl) ?_
    refine lv_iload_n hx hb dX4_readLine_196 rfl (lv_at hl 3 rfl) ?_
    refine lv_iconst (v := (1 : Int32)) hx hb dX4_readLine_197 (by decide) ?_
    refine lv_iadd hx hb dX4_readLine_198 ?_
    obtain ⟨c26, h⟩ := gchk_e h
    refine g_iast hx hb E hM hS hk_56 dd_56 c26 dX4_readLine_199 (fun H locs hM hS => ?_)
    refine lv_iinc (v := (x3 + (1 : Int32))) (lv' := [(3, .int (x3 + (1 : Int32))), (0, .ref (ad 1)), (1, .ref (ad 47)), (2, .int x2)]) hx hb dX4_readLine_200 hl (k := 3) rfl rfl (by decide) rfl (fun ls hl => ?_)
    refine lv_goto (tgt := 152) hx hb dX4_readLine_203 (by decide) ?_
    exact kc _ (Option.some.inj h).symm hM hS (lv_sub hl [1, 2, 3, 0] rfl)
  · replace h := gif_t c25 h
    refine lv_iconst (v := (0 : Int32)) hx hb dX4_readLine_189 (by decide) ?_
    obtain rfl := kr _ (Option.some.inj h).symm
    exact g_zret (v := b2i false) hx hb hr hlocks (b2i_nar false) hM hS dX4_readLine_190
def b_X4_readLine_152 (x2 : Int32) (x3 : Int32) (μ : gM) : Option ((Int32 × gM) ⊕ ((gM) ⊕ (Bool × gM))) :=
  if ((8 : Int32) ≤ x3) then some (.inr (.inl μ)) else if (x3 ≤ 0) then j_X4_readLine_172 x2 x3 μ else if ((gi μ 1 5) = (2 : Int32)) then j_X4_readLine_172 x2 x3 μ else some (.inr (.inr (true, μ)))
set_option maxHeartbeats 4000000 in
set_option maxRecDepth 100000 in
theorem wb_X4_readLine_152 {p : Program} {l : Launch} {e : Env} {s : State} {m : MethodId} {args : Array Value} {below : List Frame} {meth : Method} {c : Code} {D : va_G} {cy : Nat → ClassId} {ad : Nat → Nat} {base : gBs} {x2 : Int32} {x3 : Int32} {μ : gM} {o : (Int32 × gM) ⊕ ((gM) ⊕ (Bool × gM))} {RES : Bool × gM} (h : b_X4_readLine_152 x2 x3 μ = some o) (F : gF p s m meth c cX4_readLine RX4 4 (some .boolean)) (E : gEnv l D cy ad base s) (kc : ∀ (t : Int32 × gM) {H : Heap} {locs : List Loc} {ls : Array Slot}, o = .inl t → gW gFull D cy ad base t.2 H → va_S (gA base) s.heap H locs → lv_has ls 4 [(0, .ref (ad 1)), (1, .ref (ad 47)), (2, .int x2), (3, .int t.1)] → W p l e ({ frames := 3, cells := 0, slots := 0, locals := 66 } : Room) s m args below meth c H locs 0 0 (MQ below (gQ (some (.int (b2i RES.1))) gFull D cy ad base RES.2) args s 0 0 (gA base)) (F0 m 152 ls [])) (kx : ∀ (t : gM) {H : Heap} {locs : List Loc} {ls : Array Slot}, o = .inr (.inl t) → gW gFull D cy ad base t H → va_S (gA base) s.heap H locs → lv_has ls 4 [(0, .ref (ad 1))] → W p l e ({ frames := 3, cells := 0, slots := 0, locals := 66 } : Room) s m args below meth c H locs 0 0 (MQ below (gQ (some (.int (b2i RES.1))) gFull D cy ad base RES.2) args s 0 0 (gA base)) (F0 m 206 ls [])) (kr : ∀ x : Bool × gM, o = .inr (.inr x) → x = RES) {H : Heap} {locs : List Loc} {ls : Array Slot} (hM : gW gFull D cy ad base μ H) (hS : va_S (gA base) s.heap H locs) (hl : lv_has ls 4 [(0, .ref (ad 1)), (1, .ref (ad 47)), (2, .int x2), (3, .int x3)]) : W p l e ({ frames := 3, cells := 0, slots := 0, locals := 66 } : Room) s m args below meth c H locs 0 0 (MQ below (gQ (some (.int (b2i RES.1))) gFull D cy ad base RES.2) args s 0 0 (gA base)) (F0 m 152 ls []) := by
  obtain ⟨hx, hb, hml, hown, hlocks, hr⟩ := id F
  unfold b_X4_readLine_152 at h
  refine lv_iload_n hx hb dX4_readLine_152 rfl (lv_at hl 3 rfl) ?_
  refine lv_bipush (v := (8 : Int32)) hx hb dX4_readLine_153 (by decide) ?_
  refine lv_icmp_ge (tgt := 206) hx hb dX4_readLine_155 (by decide) (fun c21 => ?_) (fun c21 => ?_)
  · replace h := gif_t c21 h
    exact kx _ (Option.some.inj h).symm hM hS (lv_sub hl [0] rfl)
  · replace h := gif_f c21 h
    refine lv_iload_n hx hb dX4_readLine_158 rfl (lv_at hl 3 rfl) ?_
    refine lv_if_le (tgt := 172) hx hb dX4_readLine_159 (by decide) (fun c22 => ?_) (fun c22 => ?_)
    · replace h := gif_t c22 h
      exact wj_X4_readLine_172 h F E kc kx kr hM hS hl
    · replace h := gif_f c22 h
      refine lv_aload_n hx hb dX4_readLine_162 rfl (lv_at hl 0 rfl) ?_
      refine gg_1_5 hx hb hown E hM hk_1 kw_181 dX4_readLine_163 ?_
      refine lv_iconst (v := (2 : Int32)) hx hb dX4_readLine_166 (by decide) ?_
      refine lv_icmp_eq (tgt := 172) hx hb dX4_readLine_167 (by decide) (fun c27 => ?_) (fun c27 => ?_)
      · replace h := gif_t c27 h
        exact wj_X4_readLine_172 h F E kc kx kr hM hS hl
      · replace h := gif_f c27 h
        refine lv_iconst (v := (1 : Int32)) hx hb dX4_readLine_170 (by decide) ?_
        obtain rfl := kr _ (Option.some.inj h).symm
        exact g_zret (v := b2i true) hx hb hr hlocks (b2i_nar true) hM hS dX4_readLine_171
set_option maxHeartbeats 4000000 in
theorem wl_X4_readLine_152 {p : Program} {l : Launch} {e : Env} {s : State} {m : MethodId} {args : Array Value} {below : List Frame} {meth : Method} {c : Code} {D : va_G} {cy : Nat → ClassId} {ad : Nat → Nat} {base : gBs} {x2 : Int32} {r : (gM) ⊕ (Bool × gM)} {RES : Bool × gM} (F : gF p s m meth c cX4_readLine RX4 4 (some .boolean)) (E : gEnv l D cy ad base s) (kx : ∀ (t : gM) {H : Heap} {locs : List Loc} {ls : Array Slot}, r = .inl t → gW gFull D cy ad base t H → va_S (gA base) s.heap H locs → lv_has ls 4 [(0, .ref (ad 1))] → W p l e ({ frames := 3, cells := 0, slots := 0, locals := 66 } : Room) s m args below meth c H locs 0 0 (MQ below (gQ (some (.int (b2i RES.1))) gFull D cy ad base RES.2) args s 0 0 (gA base)) (F0 m 206 ls [])) (kr : ∀ x : Bool × gM, r = .inr x → x = RES) : ∀ (n : Nat) (x3 : Int32) (μ : gM), gloop (fun t => b_X4_readLine_152 x2 t.1 t.2) n (x3, μ) = some r → ∀ {H : Heap} {locs : List Loc} {ls : Array Slot}, gW gFull D cy ad base μ H → va_S (gA base) s.heap H locs → lv_has ls 4 [(0, .ref (ad 1)), (1, .ref (ad 47)), (2, .int x2), (3, .int x3)] → W p l e ({ frames := 3, cells := 0, slots := 0, locals := 66 } : Room) s m args below meth c H locs 0 0 (MQ below (gQ (some (.int (b2i RES.1))) gFull D cy ad base RES.2) args s 0 0 (gA base)) (F0 m 152 ls []) := by
  intro n
  induction n with
  | zero =>
    intro x3 μ h
    exact (gloop_0 h).elim
  | succ n ih =>
    intro x3 μ h H locs ls hM hS hl
    obtain ⟨o, h0, hc, hq⟩ := gloop_s h
    have h1 : b_X4_readLine_152 x2 x3 μ = some o := h0
    exact wb_X4_readLine_152 h1 F E (fun t H locs ls ho hM hS hl => ih t.1 t.2 (hc t ho) hM hS hl) (fun t H locs ls ho hM hS hl => kx t (hq _ ho).symm hM hS hl) (fun x ho => kr x (hq _ ho).symm) hM hS hl
def f_X4_readLine (μ : gM) : Option (Bool × gM) :=
  if ((gi μ 47 2) < (20 : Int32)) then Option.bind (f_X4_advance  μ) (fun q2 => Option.bind (f_X4_isKnownPoint  q2) (fun q3 => if ((b2i q3.1) = 0) then some (false, q3.2) else Option.bind (f_X3b_findPoint (gi q3.2 1 6) q3.2) (fun q5 => gchk (gIn (gi μ 47 2) 20) (Option.bind (f_X4_advance  (si q3.2 53 (gi μ 47 2).toNatClampNeg q5)) (fun q7 => Option.bind (f_X4_isKnownPoint  q7) (fun q8 => if ((b2i q8.1) = 0) then some (false, q8.2) else Option.bind (f_X3b_findPoint (gi q8.2 1 6) q8.2) (fun q10 => gchk (gIn (gi μ 47 2) 20) (gchk (gIn (gi μ 47 2) 20) (gchk (gIn (gi μ 47 2) 20) (if ((gi (si q8.2 54 (gi μ 47 2).toNatClampNeg q10) 54 (gi μ 47 2).toNatClampNeg) = (gi (si q8.2 54 (gi μ 47 2).toNatClampNeg q10) 53 (gi μ 47 2).toNatClampNeg)) then Option.bind (f_X4_fail (-14 : Int32) (si q8.2 54 (gi μ 47 2).toNatClampNeg q10)) (fun q37 => some (q37.1, q37.2)) else Option.bind (f_X4_advance  (si q8.2 54 (gi μ 47 2).toNatClampNeg q10)) (fun q15 => Option.bind (f_X4_isKnownLevel  q15) (fun q16 => if ((b2i q16.1) = 0) then some (false, q16.2) else Option.bind (f_X3b_findLevel (gi q16.2 1 6) q16.2) (fun q18 => gchk (gIn (gi μ 47 2) 20) (Option.bind (f_X4_advance  (si q16.2 55 (gi μ 47 2).toNatClampNeg q18)) (fun q20 => Option.bind (gloop (fun t => b_X4_readLine_152 (gi μ 47 2) t.1 t.2) gFuel ((0 : Int32), (si (si q20 47 2 ((gi q20 47 2) + (1 : Int32))) 47 4 ((gi (si q20 47 2 ((gi q20 47 2) + (1 : Int32))) 47 4) ||| ((1 : Int32) <<< ((gi μ 47 2) &&& 31)))))) (fun q28 => Sum.elim (fun t29 => if ((gi t29 1 5) = (2 : Int32)) then gchk (gIn (0 : Int32) 4) (gchk (gIn (0 : Int32) 4) (Option.bind (f_X4_isIntegerIn (sc 0 (0 : Int32).toNatClampNeg) (sc 1 (0 : Int32).toNatClampNeg) t29) (fun q33 => if ((b2i q33.1) = 0) then some (false, q33.2) else Option.bind (f_X4_fail (-15 : Int32) q33.2) (fun q35 => if ((b2i q35.1) = 0) then some (false, q35.2) else some (true, q35.2))))) else some (true, t29)) (fun x => some x) q28)))))))))))))))) else Option.bind (f_X4_fail (-15 : Int32) μ) (fun q38 => some (q38.1, q38.2))
set_option maxHeartbeats 4000000 in
set_option maxRecDepth 100000 in
theorem c_X4_readLine {l : Launch} {D : va_G} {cy : Nat → ClassId} {ad : Nat → Nat} {base : gBs}  {μ : gM} {RES : Bool × gM} (h : f_X4_readLine  μ = some RES) : Met l yX4_readLine [.code yX4_readLine cX4_readLine 4 (some .boolean)] ({ frames := 3, cells := 0, slots := 0, locals := 66 } : Room) (va_Pc [.ref (ad 1), .ref (ad 47)] (gB l gFull D cy ad base μ)) (gQ (some (.int (b2i RES.1))) gFull D cy ad base RES.2) 0 0 (gA base) := by
  refine Met.ofW (cc := cX4_readLine) (maxL := 4) (ret := (some .boolean)) (by decide) rfl ?_
  intro p e s m args below meth c s₁ B hml0 hv
  obtain ⟨rfl, E, hM⟩ := hv
  have F : gF p s m meth c cX4_readLine RX4 4 (some .boolean) := gF_of B hml0
  obtain ⟨hx, hb, hml, hown, hlocks, hr⟩ := id F
  have hS : va_S (gA base) s.heap s.heap [] := va_S.rf
  have hl := lv_entry ([.ref (ad 1), .ref (ad 47)]) (n := 4) (Nat.le_of_ble_eq_true rfl)
  rw [lg_entry_eq]
  generalize (lg_sl ([.ref (ad 1), .ref (ad 47)]) ++ List.replicate (4 - (lg_sl ([.ref (ad 1), .ref (ad 47)])).length) Slot.unset).toArray = ls at hl ⊢
  have hl : lv_has ls 4 [(0, .ref (ad 1)), (1, .ref (ad 47))] := hl
  unfold f_X4_readLine at h
  refine lv_aload_n hx hb dX4_readLine_0 rfl (lv_at hl 1 rfl) ?_
  refine gg_47_2 hx hb hown E hM hk_47 kw_403 dX4_readLine_1 ?_
  refine lv_istore_n (lv' := [(2, .int (gi μ 47 2)), (0, .ref (ad 1)), (1, .ref (ad 47))]) hx hb dX4_readLine_4 rfl hl (by decide) rfl (fun ls hl => ?_)
  refine lv_iload_n hx hb dX4_readLine_5 rfl (lv_at hl 0 rfl) ?_
  refine lv_bipush (v := (20 : Int32)) hx hb dX4_readLine_6 (by decide) ?_
  refine lv_icmp_lt (tgt := 18) hx hb dX4_readLine_8 (by decide) (fun c1 => ?_) (fun c1 => ?_)
  · replace h := gif_t c1 h
    refine lv_aload_n hx hb dX4_readLine_18 rfl (lv_at hl 1 rfl) ?_
    obtain ⟨q2, hq2, h⟩ := gbind_e h
    refine g_callV (As := []) (rest := []) hx hb (hml.trans hl.1.symm) hown E hM hS hy_X4_advance kw_919 (c_X4_advance hq2) hk_1 dd_1 rfl rfl rfl (Nat.le_of_ble_eq_true rfl) ⟨Nat.le_of_ble_eq_true rfl, Nat.le_of_ble_eq_true rfl⟩ ⟨Nat.le_of_ble_eq_true rfl, Nat.le_of_ble_eq_true rfl⟩ dX4_readLine_19 (fun H locs hM hS => ?_)
    refine lv_aload_n hx hb dX4_readLine_22 rfl (lv_at hl 1 rfl) ?_
    refine lv_aload_n hx hb dX4_readLine_23 rfl (lv_at hl 2 rfl) ?_
    obtain ⟨q3, hq3, h⟩ := gbind_e h
    refine g_callV (As := [.ref (ad 47)]) (rest := []) hx hb (hml.trans hl.1.symm) hown E hM hS hy_X4_isKnownPoint kw_990 (c_X4_isKnownPoint hq3) hk_1 dd_1 rfl rfl rfl (Nat.le_of_ble_eq_true rfl) ⟨Nat.le_of_ble_eq_true rfl, Nat.le_of_ble_eq_true rfl⟩ ⟨Nat.le_of_ble_eq_true rfl, Nat.le_of_ble_eq_true rfl⟩ dX4_readLine_24 (fun H locs hM hS => ?_)
    refine lv_if_ne (tgt := 32) hx hb dX4_readLine_27 (by decide) (fun c4 => ?_) (fun c4 => ?_)
    · replace h := gif_f c4 h
      refine lv_aload_n hx hb dX4_readLine_32 rfl (lv_at hl 2 rfl) ?_
      refine gg_47_10 hx hb hown E hM hk_47 kw_429 dX4_readLine_33 ?_
      refine lv_iload_n hx hb dX4_readLine_36 rfl (lv_at hl 0 rfl) ?_
      refine lv_aload_n hx hb dX4_readLine_37 rfl (lv_at hl 2 rfl) ?_
      refine lv_aload_n hx hb dX4_readLine_38 rfl (lv_at hl 1 rfl) ?_
      refine gg_1_6 hx hb hown E hM hk_1 kw_182 dX4_readLine_39 ?_
      obtain ⟨q5, hq5, h⟩ := gbind_e h
      refine g_callV (As := [.int (gi q3.2 1 6)]) (rest := [.int (gi μ 47 2), .ref (ad 53)]) hx hb (hml.trans hl.1.symm) hown E hM hS hy_X3_findPoint kw_974 (c_X3b_findPoint hq5) hk_47 dd_47 rfl rfl rfl (Nat.le_of_ble_eq_true rfl) ⟨Nat.le_of_ble_eq_true rfl, Nat.le_of_ble_eq_true rfl⟩ ⟨Nat.le_of_ble_eq_true rfl, Nat.le_of_ble_eq_true rfl⟩ dX4_readLine_42 (fun H locs hM hS => ?_)
      obtain ⟨c6, h⟩ := gchk_e h
      refine g_iast hx hb E hM hS hk_53 dd_53 c6 dX4_readLine_45 (fun H locs hM hS => ?_)
      refine lv_aload_n hx hb dX4_readLine_46 rfl (lv_at hl 1 rfl) ?_
      obtain ⟨q7, hq7, h⟩ := gbind_e h
      refine g_callV (As := []) (rest := []) hx hb (hml.trans hl.1.symm) hown E hM hS hy_X4_advance kw_919 (c_X4_advance hq7) hk_1 dd_1 rfl rfl rfl (Nat.le_of_ble_eq_true rfl) ⟨Nat.le_of_ble_eq_true rfl, Nat.le_of_ble_eq_true rfl⟩ ⟨Nat.le_of_ble_eq_true rfl, Nat.le_of_ble_eq_true rfl⟩ dX4_readLine_47 (fun H locs hM hS => ?_)
      refine lv_aload_n hx hb dX4_readLine_50 rfl (lv_at hl 1 rfl) ?_
      refine lv_aload_n hx hb dX4_readLine_51 rfl (lv_at hl 2 rfl) ?_
      obtain ⟨q8, hq8, h⟩ := gbind_e h
      refine g_callV (As := [.ref (ad 47)]) (rest := []) hx hb (hml.trans hl.1.symm) hown E hM hS hy_X4_isKnownPoint kw_990 (c_X4_isKnownPoint hq8) hk_1 dd_1 rfl rfl rfl (Nat.le_of_ble_eq_true rfl) ⟨Nat.le_of_ble_eq_true rfl, Nat.le_of_ble_eq_true rfl⟩ ⟨Nat.le_of_ble_eq_true rfl, Nat.le_of_ble_eq_true rfl⟩ dX4_readLine_52 (fun H locs hM hS => ?_)
      refine lv_if_ne (tgt := 60) hx hb dX4_readLine_55 (by decide) (fun c9 => ?_) (fun c9 => ?_)
      · replace h := gif_f c9 h
        refine lv_aload_n hx hb dX4_readLine_60 rfl (lv_at hl 2 rfl) ?_
        refine gg_47_11 hx hb hown E hM hk_47 kw_435 dX4_readLine_61 ?_
        refine lv_iload_n hx hb dX4_readLine_64 rfl (lv_at hl 0 rfl) ?_
        refine lv_aload_n hx hb dX4_readLine_65 rfl (lv_at hl 2 rfl) ?_
        refine lv_aload_n hx hb dX4_readLine_66 rfl (lv_at hl 1 rfl) ?_
        refine gg_1_6 hx hb hown E hM hk_1 kw_182 dX4_readLine_67 ?_
        obtain ⟨q10, hq10, h⟩ := gbind_e h
        refine g_callV (As := [.int (gi q8.2 1 6)]) (rest := [.int (gi μ 47 2), .ref (ad 54)]) hx hb (hml.trans hl.1.symm) hown E hM hS hy_X3_findPoint kw_974 (c_X3b_findPoint hq10) hk_47 dd_47 rfl rfl rfl (Nat.le_of_ble_eq_true rfl) ⟨Nat.le_of_ble_eq_true rfl, Nat.le_of_ble_eq_true rfl⟩ ⟨Nat.le_of_ble_eq_true rfl, Nat.le_of_ble_eq_true rfl⟩ dX4_readLine_70 (fun H locs hM hS => ?_)
        obtain ⟨c11, h⟩ := gchk_e h
        refine g_iast hx hb E hM hS hk_54 dd_54 c11 dX4_readLine_73 (fun H locs hM hS => ?_)
        refine lv_aload_n hx hb dX4_readLine_74 rfl (lv_at hl 2 rfl) ?_
        refine gg_47_11 hx hb hown E hM hk_47 kw_435 dX4_readLine_75 ?_
        refine lv_iload_n hx hb dX4_readLine_78 rfl (lv_at hl 0 rfl) ?_
        obtain ⟨c12, h⟩ := gchk_e h
        refine g_iald hx hb E hM hk_54 dd_54 c12 dX4_readLine_79 ?_
        refine lv_aload_n hx hb dX4_readLine_80 rfl (lv_at hl 2 rfl) ?_
        refine gg_47_10 hx hb hown E hM hk_47 kw_429 dX4_readLine_81 ?_
        refine lv_iload_n hx hb dX4_readLine_84 rfl (lv_at hl 0 rfl) ?_
        obtain ⟨c13, h⟩ := gchk_e h
        refine g_iald hx hb E hM hk_53 dd_53 c13 dX4_readLine_85 ?_
        refine lv_icmp_ne (tgt := 96) hx hb dX4_readLine_86 (by decide) (fun c14 => ?_) (fun c14 => ?_)
        · replace h := gif_f c14 h
          refine lv_aload_n hx hb dX4_readLine_96 rfl (lv_at hl 1 rfl) ?_
          obtain ⟨q15, hq15, h⟩ := gbind_e h
          refine g_callV (As := []) (rest := []) hx hb (hml.trans hl.1.symm) hown E hM hS hy_X4_advance kw_919 (c_X4_advance hq15) hk_1 dd_1 rfl rfl rfl (Nat.le_of_ble_eq_true rfl) ⟨Nat.le_of_ble_eq_true rfl, Nat.le_of_ble_eq_true rfl⟩ ⟨Nat.le_of_ble_eq_true rfl, Nat.le_of_ble_eq_true rfl⟩ dX4_readLine_97 (fun H locs hM hS => ?_)
          refine lv_aload_n hx hb dX4_readLine_100 rfl (lv_at hl 1 rfl) ?_
          refine lv_aload_n hx hb dX4_readLine_101 rfl (lv_at hl 2 rfl) ?_
          obtain ⟨q16, hq16, h⟩ := gbind_e h
          refine g_callV (As := [.ref (ad 47)]) (rest := []) hx hb (hml.trans hl.1.symm) hown E hM hS hy_X4_isKnownLevel kw_994 (c_X4_isKnownLevel hq16) hk_1 dd_1 rfl rfl rfl (Nat.le_of_ble_eq_true rfl) ⟨Nat.le_of_ble_eq_true rfl, Nat.le_of_ble_eq_true rfl⟩ ⟨Nat.le_of_ble_eq_true rfl, Nat.le_of_ble_eq_true rfl⟩ dX4_readLine_102 (fun H locs hM hS => ?_)
          refine lv_if_ne (tgt := 110) hx hb dX4_readLine_105 (by decide) (fun c17 => ?_) (fun c17 => ?_)
          · replace h := gif_f c17 h
            refine lv_aload_n hx hb dX4_readLine_110 rfl (lv_at hl 2 rfl) ?_
            refine gg_47_12 hx hb hown E hM hk_47 kw_439 dX4_readLine_111 ?_
            refine lv_iload_n hx hb dX4_readLine_114 rfl (lv_at hl 0 rfl) ?_
            refine lv_aload_n hx hb dX4_readLine_115 rfl (lv_at hl 2 rfl) ?_
            refine lv_aload_n hx hb dX4_readLine_116 rfl (lv_at hl 1 rfl) ?_
            refine gg_1_6 hx hb hown E hM hk_1 kw_182 dX4_readLine_117 ?_
            obtain ⟨q18, hq18, h⟩ := gbind_e h
            refine g_callV (As := [.int (gi q16.2 1 6)]) (rest := [.int (gi μ 47 2), .ref (ad 55)]) hx hb (hml.trans hl.1.symm) hown E hM hS hy_X3_findLevel kw_970 (c_X3b_findLevel hq18) hk_47 dd_47 rfl rfl rfl (Nat.le_of_ble_eq_true rfl) ⟨Nat.le_of_ble_eq_true rfl, Nat.le_of_ble_eq_true rfl⟩ ⟨Nat.le_of_ble_eq_true rfl, Nat.le_of_ble_eq_true rfl⟩ dX4_readLine_120 (fun H locs hM hS => ?_)
            obtain ⟨c19, h⟩ := gchk_e h
            refine g_iast hx hb E hM hS hk_55 dd_55 c19 dX4_readLine_123 (fun H locs hM hS => ?_)
            refine lv_aload_n hx hb dX4_readLine_124 rfl (lv_at hl 1 rfl) ?_
            obtain ⟨q20, hq20, h⟩ := gbind_e h
            refine g_callV (As := []) (rest := []) hx hb (hml.trans hl.1.symm) hown E hM hS hy_X4_advance kw_919 (c_X4_advance hq20) hk_1 dd_1 rfl rfl rfl (Nat.le_of_ble_eq_true rfl) ⟨Nat.le_of_ble_eq_true rfl, Nat.le_of_ble_eq_true rfl⟩ ⟨Nat.le_of_ble_eq_true rfl, Nat.le_of_ble_eq_true rfl⟩ dX4_readLine_125 (fun H locs hM hS => ?_)
            refine lv_aload_n hx hb dX4_readLine_128 rfl (lv_at hl 2 rfl) ?_
            refine lv_dup hx hb dX4_readLine_129 rfl ?_
            refine gg_47_2 hx hb hown E hM hk_47 kw_403 dX4_readLine_130 ?_
            refine lv_iconst (v := (1 : Int32)) hx hb dX4_readLine_133 (by decide) ?_
            refine lv_iadd hx hb dX4_readLine_134 ?_
            refine gp_47_2 hx hb hown E hM hS hk_47 kw_403 dX4_readLine_135 (fun H locs hM hS => ?_)
            refine lv_aload_n hx hb dX4_readLine_138 rfl (lv_at hl 2 rfl) ?_
            refine lv_dup hx hb dX4_readLine_139 rfl ?_
            refine gg_47_4 hx hb hown E hM hk_47 kw_410 dX4_readLine_140 ?_
            refine lv_iconst (v := (1 : Int32)) hx hb dX4_readLine_143 (by decide) ?_
            refine lv_iload_n hx hb dX4_readLine_144 rfl (lv_at hl 0 rfl) ?_
            refine lv_ishl hx hb dX4_readLine_145 ?_
            refine lv_ior hx hb dX4_readLine_146 ?_
            refine gp_47_4 hx hb hown E hM hS hk_47 kw_410 dX4_readLine_147 (fun H locs hM hS => ?_)
            refine lv_iconst (v := (0 : Int32)) hx hb dX4_readLine_150 (by decide) ?_
            refine lv_istore_n (lv' := [(3, .int (0 : Int32)), (2, .int (gi μ 47 2)), (0, .ref (ad 1)), (1, .ref (ad 47))]) hx hb dX4_readLine_151 rfl hl (by decide) rfl (fun ls hl => ?_)
            obtain ⟨q28, h1, h⟩ := gbind_e h
            refine wl_X4_readLine_152 F E (r := q28) (fun t29 H locs ls e1 hM hS hl => ?_) (fun x ex => ?_) gFuel (0 : Int32) (si (si q20 47 2 ((gi q20 47 2) + (1 : Int32))) 47 4 ((gi (si q20 47 2 ((gi q20 47 2) + (1 : Int32))) 47 4) ||| ((1 : Int32) <<< ((gi μ 47 2) &&& 31)))) h1 hM hS (lv_sub hl [2, 3, 1, 0] rfl)
            · replace h := gsum_l e1 h
              refine lv_aload_n hx hb dX4_readLine_206 rfl (lv_at hl 0 rfl) ?_
              refine gg_1_5 hx hb hown E hM hk_1 kw_181 dX4_readLine_207 ?_
              refine lv_iconst (v := (2 : Int32)) hx hb dX4_readLine_210 (by decide) ?_
              refine lv_icmp_eq (tgt := 216) hx hb dX4_readLine_211 (by decide) (fun c30 => ?_) (fun c30 => ?_)
              · replace h := gif_t c30 h
                refine lv_aload_n hx hb dX4_readLine_216 rfl (lv_at hl 0 rfl) ?_
                refine g_getsN hx hb hown E hS 0 (by decide) (gSt_0) E.2.2.2.2.2.1 dX4_readLine_217 ?_
                refine lv_iconst (v := (0 : Int32)) hx hb dX4_readLine_220 (by decide) ?_
                obtain ⟨c31, h⟩ := gchk_e h
                refine g_sti hx hb E hS 0 (n := 4) (by decide) rfl rfl c31 dX4_readLine_221 ?_
                refine g_getsN hx hb hown E hS 1 (by decide) (gSt_1) E.2.2.2.2.2.2.1 dX4_readLine_222 ?_
                refine lv_iconst (v := (0 : Int32)) hx hb dX4_readLine_225 (by decide) ?_
                obtain ⟨c32, h⟩ := gchk_e h
                refine g_sti hx hb E hS 1 (n := 4) (by decide) rfl rfl c32 dX4_readLine_226 ?_
                obtain ⟨q33, hq33, h⟩ := gbind_e h
                refine g_callV (As := [.int (sc 0 (0 : Int32).toNatClampNeg), .int (sc 1 (0 : Int32).toNatClampNeg)]) (rest := []) hx hb (hml.trans hl.1.symm) hown E hM hS hy_X4_isIntegerIn kw_978 (c_X4_isIntegerIn hq33) hk_1 dd_1 rfl rfl rfl (Nat.le_of_ble_eq_true rfl) ⟨Nat.le_of_ble_eq_true rfl, Nat.le_of_ble_eq_true rfl⟩ ⟨Nat.le_of_ble_eq_true rfl, Nat.le_of_ble_eq_true rfl⟩ dX4_readLine_227 (fun H locs hM hS => ?_)
                refine lv_if_eq (tgt := 246) hx hb dX4_readLine_230 (by decide) (fun c34 => ?_) (fun c34 => ?_)
                · replace h := gif_t c34 h
                  refine lv_iconst (v := (0 : Int32)) hx hb dX4_readLine_246 (by decide) ?_
                  obtain rfl := Option.some.inj h
                  exact g_zret (v := b2i false) hx hb hr hlocks (b2i_nar false) hM hS dX4_readLine_247
                · replace h := gif_f c34 h
                  refine lv_aload_n hx hb dX4_readLine_233 rfl (lv_at hl 0 rfl) ?_
                  refine lv_bipush (v := (-15 : Int32)) hx hb dX4_readLine_234 (by decide) ?_
                  obtain ⟨q35, hq35, h⟩ := gbind_e h
                  refine g_callV (As := [.int (-15 : Int32)]) (rest := []) hx hb (hml.trans hl.1.symm) hown E hM hS hy_X4_fail kw_946 (c_X4_fail hq35) hk_1 dd_1 rfl rfl rfl (Nat.le_of_ble_eq_true rfl) ⟨Nat.le_of_ble_eq_true rfl, Nat.le_of_ble_eq_true rfl⟩ ⟨Nat.le_of_ble_eq_true rfl, Nat.le_of_ble_eq_true rfl⟩ dX4_readLine_236 (fun H locs hM hS => ?_)
                  refine lv_if_eq (tgt := 246) hx hb dX4_readLine_239 (by decide) (fun c36 => ?_) (fun c36 => ?_)
                  · replace h := gif_t c36 h
                    refine lv_iconst (v := (0 : Int32)) hx hb dX4_readLine_246 (by decide) ?_
                    obtain rfl := Option.some.inj h
                    exact g_zret (v := b2i false) hx hb hr hlocks (b2i_nar false) hM hS dX4_readLine_247
                  · replace h := gif_f c36 h
                    refine lv_iconst (v := (1 : Int32)) hx hb dX4_readLine_242 (by decide) ?_
                    refine lv_goto (tgt := 247) hx hb dX4_readLine_243 (by decide) ?_
                    obtain rfl := Option.some.inj h
                    exact g_zret (v := b2i true) hx hb hr hlocks (b2i_nar true) hM hS dX4_readLine_247
              · replace h := gif_f c30 h
                refine lv_iconst (v := (1 : Int32)) hx hb dX4_readLine_214 (by decide) ?_
                obtain rfl := Option.some.inj h
                exact g_zret (v := b2i true) hx hb hr hlocks (b2i_nar true) hM hS dX4_readLine_215
            · exact Option.some.inj (gsum_r ex h)
          · replace h := gif_t c17 h
            refine lv_iconst (v := (0 : Int32)) hx hb dX4_readLine_108 (by decide) ?_
            obtain rfl := Option.some.inj h
            exact g_zret (v := b2i false) hx hb hr hlocks (b2i_nar false) hM hS dX4_readLine_109
        · replace h := gif_t c14 h
          refine lv_aload_n hx hb dX4_readLine_89 rfl (lv_at hl 1 rfl) ?_
          refine lv_bipush (v := (-14 : Int32)) hx hb dX4_readLine_90 (by decide) ?_
          obtain ⟨q37, hq37, h⟩ := gbind_e h
          refine g_callV (As := [.int (-14 : Int32)]) (rest := []) hx hb (hml.trans hl.1.symm) hown E hM hS hy_X4_fail kw_946 (c_X4_fail hq37) hk_1 dd_1 rfl rfl rfl (Nat.le_of_ble_eq_true rfl) ⟨Nat.le_of_ble_eq_true rfl, Nat.le_of_ble_eq_true rfl⟩ ⟨Nat.le_of_ble_eq_true rfl, Nat.le_of_ble_eq_true rfl⟩ dX4_readLine_92 (fun H locs hM hS => ?_)
          obtain rfl := Option.some.inj h
          exact g_zret hx hb hr hlocks (b2i_nar _) hM hS dX4_readLine_95
      · replace h := gif_t c9 h
        refine lv_iconst (v := (0 : Int32)) hx hb dX4_readLine_58 (by decide) ?_
        obtain rfl := Option.some.inj h
        exact g_zret (v := b2i false) hx hb hr hlocks (b2i_nar false) hM hS dX4_readLine_59
    · replace h := gif_t c4 h
      refine lv_iconst (v := (0 : Int32)) hx hb dX4_readLine_30 (by decide) ?_
      obtain rfl := Option.some.inj h
      exact g_zret (v := b2i false) hx hb hr hlocks (b2i_nar false) hM hS dX4_readLine_31
  · replace h := gif_f c1 h
    refine lv_aload_n hx hb dX4_readLine_11 rfl (lv_at hl 1 rfl) ?_
    refine lv_bipush (v := (-15 : Int32)) hx hb dX4_readLine_12 (by decide) ?_
    obtain ⟨q38, hq38, h⟩ := gbind_e h
    refine g_callV (As := [.int (-15 : Int32)]) (rest := []) hx hb (hml.trans hl.1.symm) hown E hM hS hy_X4_fail kw_946 (c_X4_fail hq38) hk_1 dd_1 rfl rfl rfl (Nat.le_of_ble_eq_true rfl) ⟨Nat.le_of_ble_eq_true rfl, Nat.le_of_ble_eq_true rfl⟩ ⟨Nat.le_of_ble_eq_true rfl, Nat.le_of_ble_eq_true rfl⟩ dX4_readLine_14 (fun H locs hM hS => ?_)
    obtain rfl := Option.some.inj h
    exact g_zret hx hb hr hlocks (b2i_nar _) hM hS dX4_readLine_17
def f_X4_isNewName (μ : gM) : Option (Bool × gM) :=
  Option.bind (f_X4_isName  μ) (fun q1 => if ((b2i q1) = 0) then Option.bind (f_X4_fail (-11 : Int32) μ) (fun q9 => some (q9.1, q9.2)) else Option.bind (f_X3b_findLevel (gi μ 1 6) μ) (fun q3 => if (q3 = (-1 : Int32)) then Option.bind (f_X3b_findPoint (gi μ 1 6) μ) (fun q6 => if (q6 = (-1 : Int32)) then some (true, μ) else Option.bind (f_X4_fail (-14 : Int32) μ) (fun q8 => some (q8.1, q8.2))) else Option.bind (f_X4_fail (-14 : Int32) μ) (fun q5 => some (q5.1, q5.2))))
set_option maxHeartbeats 4000000 in
set_option maxRecDepth 100000 in
theorem c_X4_isNewName {l : Launch} {D : va_G} {cy : Nat → ClassId} {ad : Nat → Nat} {base : gBs}  {μ : gM} {RES : Bool × gM} (h : f_X4_isNewName  μ = some RES) : Met l yX4_isNewName [.code yX4_isNewName cX4_isNewName 2 (some .boolean)] ({ frames := 2, cells := 0, slots := 0, locals := 42 } : Room) (va_Pc [.ref (ad 1), .ref (ad 47)] (gB l gFull D cy ad base μ)) (gQ (some (.int (b2i RES.1))) gFull D cy ad base RES.2) 0 0 (gA base) := by
  refine Met.ofW (cc := cX4_isNewName) (maxL := 2) (ret := (some .boolean)) (by decide) rfl ?_
  intro p e s m args below meth c s₁ B hml0 hv
  obtain ⟨rfl, E, hM⟩ := hv
  have F : gF p s m meth c cX4_isNewName RX4 2 (some .boolean) := gF_of B hml0
  obtain ⟨hx, hb, hml, hown, hlocks, hr⟩ := id F
  have hS : va_S (gA base) s.heap s.heap [] := va_S.rf
  have hl := lv_entry ([.ref (ad 1), .ref (ad 47)]) (n := 2) (Nat.le_of_ble_eq_true rfl)
  rw [lg_entry_eq]
  generalize (lg_sl ([.ref (ad 1), .ref (ad 47)]) ++ List.replicate (2 - (lg_sl ([.ref (ad 1), .ref (ad 47)])).length) Slot.unset).toArray = ls at hl ⊢
  have hl : lv_has ls 2 [(0, .ref (ad 1)), (1, .ref (ad 47))] := hl
  unfold f_X4_isNewName at h
  refine lv_aload_n hx hb dX4_isNewName_0 rfl (lv_at hl 0 rfl) ?_
  obtain ⟨q1, hq1, h⟩ := gbind_e h
  refine g_callV (As := []) (rest := []) hx hb (hml.trans hl.1.symm) hown E hM hS hy_X4_isName kw_954 (c_X4_isName hq1) hk_1 dd_1 rfl rfl rfl (Nat.le_of_ble_eq_true rfl) ⟨Nat.le_of_ble_eq_true rfl, Nat.le_of_ble_eq_true rfl⟩ ⟨Nat.le_of_ble_eq_true rfl, Nat.le_of_ble_eq_true rfl⟩ dX4_isNewName_1 (fun H locs hM hS => ?_)
  refine lv_if_ne (tgt := 14) hx hb dX4_isNewName_4 (by decide) (fun c2 => ?_) (fun c2 => ?_)
  · replace h := gif_f c2 h
    refine lv_aload_n hx hb dX4_isNewName_14 rfl (lv_at hl 1 rfl) ?_
    refine lv_aload_n hx hb dX4_isNewName_15 rfl (lv_at hl 0 rfl) ?_
    refine gg_1_6 hx hb hown E hM hk_1 kw_182 dX4_isNewName_16 ?_
    obtain ⟨q3, hq3, h⟩ := gbind_e h
    refine g_callV (As := [.int (gi μ 1 6)]) (rest := []) hx hb (hml.trans hl.1.symm) hown E hM hS hy_X3_findLevel kw_970 (c_X3b_findLevel hq3) hk_47 dd_47 rfl rfl rfl (Nat.le_of_ble_eq_true rfl) ⟨Nat.le_of_ble_eq_true rfl, Nat.le_of_ble_eq_true rfl⟩ ⟨Nat.le_of_ble_eq_true rfl, Nat.le_of_ble_eq_true rfl⟩ dX4_isNewName_19 (fun H locs hM hS => ?_)
    refine lv_iconst (v := (-1 : Int32)) hx hb dX4_isNewName_22 (by decide) ?_
    refine lv_icmp_ne (tgt := 38) hx hb dX4_isNewName_23 (by decide) (fun c4 => ?_) (fun c4 => ?_)
    · replace h := gif_f c4 h
      refine lv_aload_n hx hb dX4_isNewName_38 rfl (lv_at hl 0 rfl) ?_
      refine lv_bipush (v := (-14 : Int32)) hx hb dX4_isNewName_39 (by decide) ?_
      obtain ⟨q5, hq5, h⟩ := gbind_e h
      refine g_callV (As := [.int (-14 : Int32)]) (rest := []) hx hb (hml.trans hl.1.symm) hown E hM hS hy_X4_fail kw_946 (c_X4_fail hq5) hk_1 dd_1 rfl rfl rfl (Nat.le_of_ble_eq_true rfl) ⟨Nat.le_of_ble_eq_true rfl, Nat.le_of_ble_eq_true rfl⟩ ⟨Nat.le_of_ble_eq_true rfl, Nat.le_of_ble_eq_true rfl⟩ dX4_isNewName_41 (fun H locs hM hS => ?_)
      obtain rfl := Option.some.inj h
      exact g_zret hx hb hr hlocks (b2i_nar _) hM hS dX4_isNewName_44
    · replace h := gif_t c4 h
      refine lv_aload_n hx hb dX4_isNewName_26 rfl (lv_at hl 1 rfl) ?_
      refine lv_aload_n hx hb dX4_isNewName_27 rfl (lv_at hl 0 rfl) ?_
      refine gg_1_6 hx hb hown E hM hk_1 kw_182 dX4_isNewName_28 ?_
      obtain ⟨q6, hq6, h⟩ := gbind_e h
      refine g_callV (As := [.int (gi μ 1 6)]) (rest := []) hx hb (hml.trans hl.1.symm) hown E hM hS hy_X3_findPoint kw_974 (c_X3b_findPoint hq6) hk_47 dd_47 rfl rfl rfl (Nat.le_of_ble_eq_true rfl) ⟨Nat.le_of_ble_eq_true rfl, Nat.le_of_ble_eq_true rfl⟩ ⟨Nat.le_of_ble_eq_true rfl, Nat.le_of_ble_eq_true rfl⟩ dX4_isNewName_31 (fun H locs hM hS => ?_)
      refine lv_iconst (v := (-1 : Int32)) hx hb dX4_isNewName_34 (by decide) ?_
      refine lv_icmp_eq (tgt := 45) hx hb dX4_isNewName_35 (by decide) (fun c7 => ?_) (fun c7 => ?_)
      · replace h := gif_t c7 h
        refine lv_iconst (v := (1 : Int32)) hx hb dX4_isNewName_45 (by decide) ?_
        obtain rfl := Option.some.inj h
        exact g_zret (v := b2i true) hx hb hr hlocks (b2i_nar true) hM hS dX4_isNewName_46
      · replace h := gif_f c7 h
        refine lv_aload_n hx hb dX4_isNewName_38 rfl (lv_at hl 0 rfl) ?_
        refine lv_bipush (v := (-14 : Int32)) hx hb dX4_isNewName_39 (by decide) ?_
        obtain ⟨q8, hq8, h⟩ := gbind_e h
        refine g_callV (As := [.int (-14 : Int32)]) (rest := []) hx hb (hml.trans hl.1.symm) hown E hM hS hy_X4_fail kw_946 (c_X4_fail hq8) hk_1 dd_1 rfl rfl rfl (Nat.le_of_ble_eq_true rfl) ⟨Nat.le_of_ble_eq_true rfl, Nat.le_of_ble_eq_true rfl⟩ ⟨Nat.le_of_ble_eq_true rfl, Nat.le_of_ble_eq_true rfl⟩ dX4_isNewName_41 (fun H locs hM hS => ?_)
        obtain rfl := Option.some.inj h
        exact g_zret hx hb hr hlocks (b2i_nar _) hM hS dX4_isNewName_44
  · replace h := gif_t c2 h
    refine lv_aload_n hx hb dX4_isNewName_7 rfl (lv_at hl 0 rfl) ?_
    refine lv_bipush (v := (-11 : Int32)) hx hb dX4_isNewName_8 (by decide) ?_
    obtain ⟨q9, hq9, h⟩ := gbind_e h
    refine g_callV (As := [.int (-11 : Int32)]) (rest := []) hx hb (hml.trans hl.1.symm) hown E hM hS hy_X4_fail kw_946 (c_X4_fail hq9) hk_1 dd_1 rfl rfl rfl (Nat.le_of_ble_eq_true rfl) ⟨Nat.le_of_ble_eq_true rfl, Nat.le_of_ble_eq_true rfl⟩ ⟨Nat.le_of_ble_eq_true rfl, Nat.le_of_ble_eq_true rfl⟩ dX4_isNewName_10 (fun H locs hM hS => ?_)
    obtain rfl := Option.some.inj h
    exact g_zret hx hb hr hlocks (b2i_nar _) hM hS dX4_isNewName_13
def j_X4_readPoint_70 (x2 : Int32) (x3 : Int32) (μ : gM) : Option (Bool × gM) :=
  gchk (gIn (gi μ 47 1) 16) (gchk (gIn (gi (si μ 51 (gi μ 47 1).toNatClampNeg x2) 47 1) 16) (some (true, (si (si (si μ 51 (gi μ 47 1).toNatClampNeg x2) 52 (gi (si μ 51 (gi μ 47 1).toNatClampNeg x2) 47 1).toNatClampNeg x3) 47 1 ((gi (si (si μ 51 (gi μ 47 1).toNatClampNeg x2) 52 (gi (si μ 51 (gi μ 47 1).toNatClampNeg x2) 47 1).toNatClampNeg x3) 47 1) + (1 : Int32))))))
set_option maxHeartbeats 4000000 in
set_option maxRecDepth 100000 in
theorem wj_X4_readPoint_70 {p : Program} {l : Launch} {e : Env} {s : State} {m : MethodId} {args : Array Value} {below : List Frame} {meth : Method} {c : Code} {D : va_G} {cy : Nat → ClassId} {ad : Nat → Nat} {base : gBs} {x2 : Int32} {x3 : Int32} {μ : gM} {o : Bool × gM} (h : j_X4_readPoint_70 x2 x3 μ = some o) (F : gF p s m meth c cX4_readPoint RX4 4 (some .boolean)) (E : gEnv l D cy ad base s)  {H : Heap} {locs : List Loc} {ls : Array Slot} (hM : gW gFull D cy ad base μ H) (hS : va_S (gA base) s.heap H locs) (hl : lv_has ls 4 [(1, .ref (ad 47)), (2, .int x2), (3, .int x3)]) : W p l e ({ frames := 3, cells := 0, slots := 0, locals := 63 } : Room) s m args below meth c H locs 0 0 (MQ below (gQ (some (.int (b2i o.1))) gFull D cy ad base o.2) args s 0 0 (gA base)) (F0 m 70 ls []) := by
  obtain ⟨hx, hb, hml, hown, hlocks, hr⟩ := id F
  unfold j_X4_readPoint_70 at h
  refine lv_aload_n hx hb dX4_readPoint_70 rfl (lv_at hl 0 rfl) ?_
  refine gg_47_8 hx hb hown E hM hk_47 kw_421 dX4_readPoint_71 ?_
  refine lv_aload_n hx hb dX4_readPoint_74 rfl (lv_at hl 0 rfl) ?_
  refine gg_47_1 hx hb hown E hM hk_47 kw_396 dX4_readPoint_75 ?_
  refine lv_iload_n hx hb dX4_readPoint_78 rfl (lv_at hl 1 rfl) ?_
  obtain ⟨c7, h⟩ := gchk_e h
  refine g_iast hx hb E hM hS hk_51 dd_51 c7 dX4_readPoint_79 (fun H locs hM hS => ?_)
  refine lv_aload_n hx hb dX4_readPoint_80 rfl (lv_at hl 0 rfl) ?_
  refine gg_47_9 hx hb hown E hM hk_47 kw_424 dX4_readPoint_81 ?_
  refine lv_aload_n hx hb dX4_readPoint_84 rfl (lv_at hl 0 rfl) ?_
  refine gg_47_1 hx hb hown E hM hk_47 kw_396 dX4_readPoint_85 ?_
  refine lv_iload_n hx hb dX4_readPoint_88 rfl (lv_at hl 2 rfl) ?_
  obtain ⟨c8, h⟩ := gchk_e h
  refine g_iast hx hb E hM hS hk_52 dd_52 c8 dX4_readPoint_89 (fun H locs hM hS => ?_)
  refine lv_aload_n hx hb dX4_readPoint_90 rfl (lv_at hl 0 rfl) ?_
  refine lv_dup hx hb dX4_readPoint_91 rfl ?_
  refine gg_47_1 hx hb hown E hM hk_47 kw_396 dX4_readPoint_92 ?_
  refine lv_iconst (v := (1 : Int32)) hx hb dX4_readPoint_95 (by decide) ?_
  refine lv_iadd hx hb dX4_readPoint_96 ?_
  refine gp_47_1 hx hb hown E hM hS hk_47 kw_396 dX4_readPoint_97 (fun H locs hM hS => ?_)
  refine lv_iconst (v := (1 : Int32)) hx hb dX4_readPoint_100 (by decide) ?_
  obtain rfl := Option.some.inj h
  exact g_zret (v := b2i true) hx hb hr hlocks (b2i_nar true) hM hS dX4_readPoint_101
def f_X4_readPoint (μ : gM) : Option (Bool × gM) :=
  if ((gi μ 47 1) < (16 : Int32)) then Option.bind (f_X4_advance  μ) (fun q2 => Option.bind (f_X4_isNewName  q2) (fun q3 => if ((b2i q3.1) = 0) then some (false, q3.2) else Option.bind (f_X4_advance  q3.2) (fun q5 => if ((gi q5 1 5) = (2 : Int32)) then Option.bind (f_X4_isIntegerIn (0 : Int32) (9999999 : Int32) q5) (fun q9 => if ((b2i q9.1) = 0) then some (false, q9.2) else Option.bind (f_X4_advance  q9.2) (fun q11 => j_X4_readPoint_70 (gi q3.2 1 6) (gi q9.2 1 7) q11)) else j_X4_readPoint_70 (gi q3.2 1 6) (-1 : Int32) q5))) else Option.bind (f_X4_fail (-15 : Int32) μ) (fun q12 => some (q12.1, q12.2))
set_option maxHeartbeats 4000000 in
set_option maxRecDepth 100000 in
theorem c_X4_readPoint {l : Launch} {D : va_G} {cy : Nat → ClassId} {ad : Nat → Nat} {base : gBs}  {μ : gM} {RES : Bool × gM} (h : f_X4_readPoint  μ = some RES) : Met l yX4_readPoint [.code yX4_readPoint cX4_readPoint 4 (some .boolean)] ({ frames := 3, cells := 0, slots := 0, locals := 63 } : Room) (va_Pc [.ref (ad 1), .ref (ad 47)] (gB l gFull D cy ad base μ)) (gQ (some (.int (b2i RES.1))) gFull D cy ad base RES.2) 0 0 (gA base) := by
  refine Met.ofW (cc := cX4_readPoint) (maxL := 4) (ret := (some .boolean)) (by decide) rfl ?_
  intro p e s m args below meth c s₁ B hml0 hv
  obtain ⟨rfl, E, hM⟩ := hv
  have F : gF p s m meth c cX4_readPoint RX4 4 (some .boolean) := gF_of B hml0
  obtain ⟨hx, hb, hml, hown, hlocks, hr⟩ := id F
  have hS : va_S (gA base) s.heap s.heap [] := va_S.rf
  have hl := lv_entry ([.ref (ad 1), .ref (ad 47)]) (n := 4) (Nat.le_of_ble_eq_true rfl)
  rw [lg_entry_eq]
  generalize (lg_sl ([.ref (ad 1), .ref (ad 47)]) ++ List.replicate (4 - (lg_sl ([.ref (ad 1), .ref (ad 47)])).length) Slot.unset).toArray = ls at hl ⊢
  have hl : lv_has ls 4 [(0, .ref (ad 1)), (1, .ref (ad 47))] := hl
  unfold f_X4_readPoint at h
  refine lv_aload_n hx hb dX4_readPoint_0 rfl (lv_at hl 1 rfl) ?_
  refine gg_47_1 hx hb hown E hM hk_47 kw_396 dX4_readPoint_1 ?_
  refine lv_bipush (v := (16 : Int32)) hx hb dX4_readPoint_4 (by decide) ?_
  refine lv_icmp_lt (tgt := 16) hx hb dX4_readPoint_6 (by decide) (fun c1 => ?_) (fun c1 => ?_)
  · replace h := gif_t c1 h
    refine lv_aload_n hx hb dX4_readPoint_16 rfl (lv_at hl 0 rfl) ?_
    obtain ⟨q2, hq2, h⟩ := gbind_e h
    refine g_callV (As := []) (rest := []) hx hb (hml.trans hl.1.symm) hown E hM hS hy_X4_advance kw_919 (c_X4_advance hq2) hk_1 dd_1 rfl rfl rfl (Nat.le_of_ble_eq_true rfl) ⟨Nat.le_of_ble_eq_true rfl, Nat.le_of_ble_eq_true rfl⟩ ⟨Nat.le_of_ble_eq_true rfl, Nat.le_of_ble_eq_true rfl⟩ dX4_readPoint_17 (fun H locs hM hS => ?_)
    refine lv_aload_n hx hb dX4_readPoint_20 rfl (lv_at hl 0 rfl) ?_
    refine lv_aload_n hx hb dX4_readPoint_21 rfl (lv_at hl 1 rfl) ?_
    obtain ⟨q3, hq3, h⟩ := gbind_e h
    refine g_callV (As := [.ref (ad 47)]) (rest := []) hx hb (hml.trans hl.1.symm) hown E hM hS hy_X4_isNewName kw_950 (c_X4_isNewName hq3) hk_1 dd_1 rfl rfl rfl (Nat.le_of_ble_eq_true rfl) ⟨Nat.le_of_ble_eq_true rfl, Nat.le_of_ble_eq_true rfl⟩ ⟨Nat.le_of_ble_eq_true rfl, Nat.le_of_ble_eq_true rfl⟩ dX4_readPoint_22 (fun H locs hM hS => ?_)
    refine lv_if_ne (tgt := 30) hx hb dX4_readPoint_25 (by decide) (fun c4 => ?_) (fun c4 => ?_)
    · replace h := gif_f c4 h
      refine lv_aload_n hx hb dX4_readPoint_30 rfl (lv_at hl 0 rfl) ?_
      refine gg_1_6 hx hb hown E hM hk_1 kw_182 dX4_readPoint_31 ?_
      refine lv_istore_n (lv' := [(2, .int (gi q3.2 1 6)), (0, .ref (ad 1)), (1, .ref (ad 47))]) hx hb dX4_readPoint_34 rfl hl (by decide) rfl (fun ls hl => ?_)
      refine lv_iconst (v := (-1 : Int32)) hx hb dX4_readPoint_35 (by decide) ?_
      refine lv_istore_n (lv' := [(3, .int (-1 : Int32)), (2, .int (gi q3.2 1 6)), (0, .ref (ad 1)), (1, .ref (ad 47))]) hx hb dX4_readPoint_36 rfl hl (by decide) rfl (fun ls hl => ?_)
      refine lv_aload_n hx hb dX4_readPoint_37 rfl (lv_at hl 2 rfl) ?_
      obtain ⟨q5, hq5, h⟩ := gbind_e h
      refine g_callV (As := []) (rest := []) hx hb (hml.trans hl.1.symm) hown E hM hS hy_X4_advance kw_919 (c_X4_advance hq5) hk_1 dd_1 rfl rfl rfl (Nat.le_of_ble_eq_true rfl) ⟨Nat.le_of_ble_eq_true rfl, Nat.le_of_ble_eq_true rfl⟩ ⟨Nat.le_of_ble_eq_true rfl, Nat.le_of_ble_eq_true rfl⟩ dX4_readPoint_38 (fun H locs hM hS => ?_)
      refine lv_aload_n hx hb dX4_readPoint_41 rfl (lv_at hl 2 rfl) ?_
      refine gg_1_5 hx hb hown E hM hk_1 kw_181 dX4_readPoint_42 ?_
      refine lv_iconst (v := (2 : Int32)) hx hb dX4_readPoint_45 (by decide) ?_
      refine lv_icmp_ne (tgt := 70) hx hb dX4_readPoint_46 (by decide) (fun c6 => ?_) (fun c6 => ?_)
      · replace h := gif_f c6 h
        exact wj_X4_readPoint_70 h F E hM hS (lv_sub hl [3, 1, 0] rfl)
      · replace h := gif_t c6 h
        refine lv_aload_n hx hb dX4_readPoint_49 rfl (lv_at hl 2 rfl) ?_
        refine lv_iconst (v := (0 : Int32)) hx hb dX4_readPoint_50 (by decide) ?_
        refine lv_ldc hx hb hown (v := (9999999 : Int32)) (E.kw kw_931) dX4_readPoint_51 ?_
        obtain ⟨q9, hq9, h⟩ := gbind_e h
        refine g_callV (As := [.int (0 : Int32), .int (9999999 : Int32)]) (rest := []) hx hb (hml.trans hl.1.symm) hown E hM hS hy_X4_isIntegerIn kw_978 (c_X4_isIntegerIn hq9) hk_1 dd_1 rfl rfl rfl (Nat.le_of_ble_eq_true rfl) ⟨Nat.le_of_ble_eq_true rfl, Nat.le_of_ble_eq_true rfl⟩ ⟨Nat.le_of_ble_eq_true rfl, Nat.le_of_ble_eq_true rfl⟩ dX4_readPoint_53 (fun H locs hM hS => ?_)
        refine lv_if_ne (tgt := 61) hx hb dX4_readPoint_56 (by decide) (fun c10 => ?_) (fun c10 => ?_)
        · replace h := gif_f c10 h
          refine lv_aload_n hx hb dX4_readPoint_61 rfl (lv_at hl 2 rfl) ?_
          refine gg_1_7 hx hb hown E hM hk_1 kw_183 dX4_readPoint_62 ?_
          refine lv_istore_n (lv' := [(3, .int (gi q9.2 1 7)), (2, .int (gi q3.2 1 6)), (0, .ref (ad 1)), (1, .ref (ad 47))]) hx hb dX4_readPoint_65 rfl hl (by decide) rfl (fun ls hl => ?_)
          refine lv_aload_n hx hb dX4_readPoint_66 rfl (lv_at hl 2 rfl) ?_
          obtain ⟨q11, hq11, h⟩ := gbind_e h
          refine g_callV (As := []) (rest := []) hx hb (hml.trans hl.1.symm) hown E hM hS hy_X4_advance kw_919 (c_X4_advance hq11) hk_1 dd_1 rfl rfl rfl (Nat.le_of_ble_eq_true rfl) ⟨Nat.le_of_ble_eq_true rfl, Nat.le_of_ble_eq_true rfl⟩ ⟨Nat.le_of_ble_eq_true rfl, Nat.le_of_ble_eq_true rfl⟩ dX4_readPoint_67 (fun H locs hM hS => ?_)
          exact wj_X4_readPoint_70 h F E hM hS (lv_sub hl [3, 1, 0] rfl)
        · replace h := gif_t c10 h
          refine lv_iconst (v := (0 : Int32)) hx hb dX4_readPoint_59 (by decide) ?_
          obtain rfl := Option.some.inj h
          exact g_zret (v := b2i false) hx hb hr hlocks (b2i_nar false) hM hS dX4_readPoint_60
    · replace h := gif_t c4 h
      refine lv_iconst (v := (0 : Int32)) hx hb dX4_readPoint_28 (by decide) ?_
      obtain rfl := Option.some.inj h
      exact g_zret (v := b2i false) hx hb hr hlocks (b2i_nar false) hM hS dX4_readPoint_29
  · replace h := gif_f c1 h
    refine lv_aload_n hx hb dX4_readPoint_9 rfl (lv_at hl 0 rfl) ?_
    refine lv_bipush (v := (-15 : Int32)) hx hb dX4_readPoint_10 (by decide) ?_
    obtain ⟨q12, hq12, h⟩ := gbind_e h
    refine g_callV (As := [.int (-15 : Int32)]) (rest := []) hx hb (hml.trans hl.1.symm) hown E hM hS hy_X4_fail kw_946 (c_X4_fail hq12) hk_1 dd_1 rfl rfl rfl (Nat.le_of_ble_eq_true rfl) ⟨Nat.le_of_ble_eq_true rfl, Nat.le_of_ble_eq_true rfl⟩ ⟨Nat.le_of_ble_eq_true rfl, Nat.le_of_ble_eq_true rfl⟩ dX4_readPoint_12 (fun H locs hM hS => ?_)
    obtain rfl := Option.some.inj h
    exact g_zret hx hb hr hlocks (b2i_nar _) hM hS dX4_readPoint_15
def j_X4_readLevel_77 (x2 : Int32) (x3 : Int32) (μ : gM) : Option (Bool × gM) :=
  gchk (gIn (gi μ 47 0) 3) (gchk (gIn (gi (si μ 49 (gi μ 47 0).toNatClampNeg x2) 47 0) 3) (some (true, (si (si (si μ 49 (gi μ 47 0).toNatClampNeg x2) 50 (gi (si μ 49 (gi μ 47 0).toNatClampNeg x2) 47 0).toNatClampNeg x3) 47 0 ((gi (si (si μ 49 (gi μ 47 0).toNatClampNeg x2) 50 (gi (si μ 49 (gi μ 47 0).toNatClampNeg x2) 47 0).toNatClampNeg x3) 47 0) + (1 : Int32))))))
set_option maxHeartbeats 4000000 in
set_option maxRecDepth 100000 in
theorem wj_X4_readLevel_77 {p : Program} {l : Launch} {e : Env} {s : State} {m : MethodId} {args : Array Value} {below : List Frame} {meth : Method} {c : Code} {D : va_G} {cy : Nat → ClassId} {ad : Nat → Nat} {base : gBs} {x2 : Int32} {x3 : Int32} {μ : gM} {o : Bool × gM} (h : j_X4_readLevel_77 x2 x3 μ = some o) (F : gF p s m meth c cX4_readLevel RX4 4 (some .boolean)) (E : gEnv l D cy ad base s)  {H : Heap} {locs : List Loc} {ls : Array Slot} (hM : gW gFull D cy ad base μ H) (hS : va_S (gA base) s.heap H locs) (hl : lv_has ls 4 [(1, .ref (ad 47)), (2, .int x2), (3, .int x3)]) : W p l e ({ frames := 3, cells := 0, slots := 0, locals := 63 } : Room) s m args below meth c H locs 0 0 (MQ below (gQ (some (.int (b2i o.1))) gFull D cy ad base o.2) args s 0 0 (gA base)) (F0 m 77 ls []) := by
  obtain ⟨hx, hb, hml, hown, hlocks, hr⟩ := id F
  unfold j_X4_readLevel_77 at h
  refine lv_aload_n hx hb dX4_readLevel_77 rfl (lv_at hl 0 rfl) ?_
  refine gg_47_6 hx hb hown E hM hk_47 kw_416 dX4_readLevel_78 ?_
  refine lv_aload_n hx hb dX4_readLevel_81 rfl (lv_at hl 0 rfl) ?_
  refine gg_47_0 hx hb hown E hM hk_47 kw_390 dX4_readLevel_82 ?_
  refine lv_iload_n hx hb dX4_readLevel_85 rfl (lv_at hl 1 rfl) ?_
  obtain ⟨c11, h⟩ := gchk_e h
  refine g_iast hx hb E hM hS hk_49 dd_49 c11 dX4_readLevel_86 (fun H locs hM hS => ?_)
  refine lv_aload_n hx hb dX4_readLevel_87 rfl (lv_at hl 0 rfl) ?_
  refine gg_47_7 hx hb hown E hM hk_47 kw_418 dX4_readLevel_88 ?_
  refine lv_aload_n hx hb dX4_readLevel_91 rfl (lv_at hl 0 rfl) ?_
  refine gg_47_0 hx hb hown E hM hk_47 kw_390 dX4_readLevel_92 ?_
  refine lv_iload_n hx hb dX4_readLevel_95 rfl (lv_at hl 2 rfl) ?_
  obtain ⟨c12, h⟩ := gchk_e h
  refine g_iast hx hb E hM hS hk_50 dd_50 c12 dX4_readLevel_96 (fun H locs hM hS => ?_)
  refine lv_aload_n hx hb dX4_readLevel_97 rfl (lv_at hl 0 rfl) ?_
  refine lv_dup hx hb dX4_readLevel_98 rfl ?_
  refine gg_47_0 hx hb hown E hM hk_47 kw_390 dX4_readLevel_99 ?_
  refine lv_iconst (v := (1 : Int32)) hx hb dX4_readLevel_102 (by decide) ?_
  refine lv_iadd hx hb dX4_readLevel_103 ?_
  refine gp_47_0 hx hb hown E hM hS hk_47 kw_390 dX4_readLevel_104 (fun H locs hM hS => ?_)
  refine lv_iconst (v := (1 : Int32)) hx hb dX4_readLevel_107 (by decide) ?_
  obtain rfl := Option.some.inj h
  exact g_zret (v := b2i true) hx hb hr hlocks (b2i_nar true) hM hS dX4_readLevel_108
def f_X4_readLevel (μ : gM) : Option (Bool × gM) :=
  if ((gi μ 47 0) < (3 : Int32)) then Option.bind (f_X4_advance  μ) (fun q2 => Option.bind (f_X4_isNewName  q2) (fun q3 => if ((b2i q3.1) = 0) then some (false, q3.2) else Option.bind (f_X4_advance  q3.2) (fun q5 => Option.bind (f_X4_isIntegerIn (0 : Int32) (200 : Int32) q5) (fun q6 => if ((b2i q6.1) = 0) then some (false, q6.2) else Option.bind (f_X4_advance  q6.2) (fun q8 => Option.bind (f_X4_isWord_6  q8) (fun q9 => if ((b2i q9) = 0) then j_X4_readLevel_77 (gi q3.2 1 6) (gi q6.2 1 7) q8 else Option.bind (f_X4_advance  q8) (fun q13 => j_X4_readLevel_77 (gi q3.2 1 6) (-(gi q6.2 1 7)) q13))))))) else Option.bind (f_X4_fail (-15 : Int32) μ) (fun q14 => some (q14.1, q14.2))
set_option maxHeartbeats 4000000 in
set_option maxRecDepth 100000 in
theorem c_X4_readLevel {l : Launch} {D : va_G} {cy : Nat → ClassId} {ad : Nat → Nat} {base : gBs}  {μ : gM} {RES : Bool × gM} (h : f_X4_readLevel  μ = some RES) : Met l yX4_readLevel [.code yX4_readLevel cX4_readLevel 4 (some .boolean)] ({ frames := 3, cells := 0, slots := 0, locals := 63 } : Room) (va_Pc [.ref (ad 1), .ref (ad 47)] (gB l gFull D cy ad base μ)) (gQ (some (.int (b2i RES.1))) gFull D cy ad base RES.2) 0 0 (gA base) := by
  refine Met.ofW (cc := cX4_readLevel) (maxL := 4) (ret := (some .boolean)) (by decide) rfl ?_
  intro p e s m args below meth c s₁ B hml0 hv
  obtain ⟨rfl, E, hM⟩ := hv
  have F : gF p s m meth c cX4_readLevel RX4 4 (some .boolean) := gF_of B hml0
  obtain ⟨hx, hb, hml, hown, hlocks, hr⟩ := id F
  have hS : va_S (gA base) s.heap s.heap [] := va_S.rf
  have hl := lv_entry ([.ref (ad 1), .ref (ad 47)]) (n := 4) (Nat.le_of_ble_eq_true rfl)
  rw [lg_entry_eq]
  generalize (lg_sl ([.ref (ad 1), .ref (ad 47)]) ++ List.replicate (4 - (lg_sl ([.ref (ad 1), .ref (ad 47)])).length) Slot.unset).toArray = ls at hl ⊢
  have hl : lv_has ls 4 [(0, .ref (ad 1)), (1, .ref (ad 47))] := hl
  unfold f_X4_readLevel at h
  refine lv_aload_n hx hb dX4_readLevel_0 rfl (lv_at hl 1 rfl) ?_
  refine gg_47_0 hx hb hown E hM hk_47 kw_390 dX4_readLevel_1 ?_
  refine lv_iconst (v := (3 : Int32)) hx hb dX4_readLevel_4 (by decide) ?_
  refine lv_icmp_lt (tgt := 15) hx hb dX4_readLevel_5 (by decide) (fun c1 => ?_) (fun c1 => ?_)
  · replace h := gif_t c1 h
    refine lv_aload_n hx hb dX4_readLevel_15 rfl (lv_at hl 0 rfl) ?_
    obtain ⟨q2, hq2, h⟩ := gbind_e h
    refine g_callV (As := []) (rest := []) hx hb (hml.trans hl.1.symm) hown E hM hS hy_X4_advance kw_919 (c_X4_advance hq2) hk_1 dd_1 rfl rfl rfl (Nat.le_of_ble_eq_true rfl) ⟨Nat.le_of_ble_eq_true rfl, Nat.le_of_ble_eq_true rfl⟩ ⟨Nat.le_of_ble_eq_true rfl, Nat.le_of_ble_eq_true rfl⟩ dX4_readLevel_16 (fun H locs hM hS => ?_)
    refine lv_aload_n hx hb dX4_readLevel_19 rfl (lv_at hl 0 rfl) ?_
    refine lv_aload_n hx hb dX4_readLevel_20 rfl (lv_at hl 1 rfl) ?_
    obtain ⟨q3, hq3, h⟩ := gbind_e h
    refine g_callV (As := [.ref (ad 47)]) (rest := []) hx hb (hml.trans hl.1.symm) hown E hM hS hy_X4_isNewName kw_950 (c_X4_isNewName hq3) hk_1 dd_1 rfl rfl rfl (Nat.le_of_ble_eq_true rfl) ⟨Nat.le_of_ble_eq_true rfl, Nat.le_of_ble_eq_true rfl⟩ ⟨Nat.le_of_ble_eq_true rfl, Nat.le_of_ble_eq_true rfl⟩ dX4_readLevel_21 (fun H locs hM hS => ?_)
    refine lv_if_ne (tgt := 29) hx hb dX4_readLevel_24 (by decide) (fun c4 => ?_) (fun c4 => ?_)
    · replace h := gif_f c4 h
      refine lv_aload_n hx hb dX4_readLevel_29 rfl (lv_at hl 0 rfl) ?_
      refine gg_1_6 hx hb hown E hM hk_1 kw_182 dX4_readLevel_30 ?_
      refine lv_istore_n (lv' := [(2, .int (gi q3.2 1 6)), (0, .ref (ad 1)), (1, .ref (ad 47))]) hx hb dX4_readLevel_33 rfl hl (by decide) rfl (fun ls hl => ?_)
      refine lv_aload_n hx hb dX4_readLevel_34 rfl (lv_at hl 1 rfl) ?_
      obtain ⟨q5, hq5, h⟩ := gbind_e h
      refine g_callV (As := []) (rest := []) hx hb (hml.trans hl.1.symm) hown E hM hS hy_X4_advance kw_919 (c_X4_advance hq5) hk_1 dd_1 rfl rfl rfl (Nat.le_of_ble_eq_true rfl) ⟨Nat.le_of_ble_eq_true rfl, Nat.le_of_ble_eq_true rfl⟩ ⟨Nat.le_of_ble_eq_true rfl, Nat.le_of_ble_eq_true rfl⟩ dX4_readLevel_35 (fun H locs hM hS => ?_)
      refine lv_aload_n hx hb dX4_readLevel_38 rfl (lv_at hl 1 rfl) ?_
      refine lv_iconst (v := (0 : Int32)) hx hb dX4_readLevel_39 (by decide) ?_
      refine lv_sipush (v := (200 : Int32)) hx hb dX4_readLevel_40 (by decide) ?_
      obtain ⟨q6, hq6, h⟩ := gbind_e h
      refine g_callV (As := [.int (0 : Int32), .int (200 : Int32)]) (rest := []) hx hb (hml.trans hl.1.symm) hown E hM hS hy_X4_isIntegerIn kw_978 (c_X4_isIntegerIn hq6) hk_1 dd_1 rfl rfl rfl (Nat.le_of_ble_eq_true rfl) ⟨Nat.le_of_ble_eq_true rfl, Nat.le_of_ble_eq_true rfl⟩ ⟨Nat.le_of_ble_eq_true rfl, Nat.le_of_ble_eq_true rfl⟩ dX4_readLevel_43 (fun H locs hM hS => ?_)
      refine lv_if_ne (tgt := 51) hx hb dX4_readLevel_46 (by decide) (fun c7 => ?_) (fun c7 => ?_)
      · replace h := gif_f c7 h
        refine lv_aload_n hx hb dX4_readLevel_51 rfl (lv_at hl 1 rfl) ?_
        refine gg_1_7 hx hb hown E hM hk_1 kw_183 dX4_readLevel_52 ?_
        refine lv_istore_n (lv' := [(3, .int (gi q6.2 1 7)), (2, .int (gi q3.2 1 6)), (0, .ref (ad 1)), (1, .ref (ad 47))]) hx hb dX4_readLevel_55 rfl hl (by decide) rfl (fun ls hl => ?_)
        refine lv_aload_n hx hb dX4_readLevel_56 rfl (lv_at hl 2 rfl) ?_
        obtain ⟨q8, hq8, h⟩ := gbind_e h
        refine g_callV (As := []) (rest := []) hx hb (hml.trans hl.1.symm) hown E hM hS hy_X4_advance kw_919 (c_X4_advance hq8) hk_1 dd_1 rfl rfl rfl (Nat.le_of_ble_eq_true rfl) ⟨Nat.le_of_ble_eq_true rfl, Nat.le_of_ble_eq_true rfl⟩ ⟨Nat.le_of_ble_eq_true rfl, Nat.le_of_ble_eq_true rfl⟩ dX4_readLevel_57 (fun H locs hM hS => ?_)
        refine lv_aload_n hx hb dX4_readLevel_60 rfl (lv_at hl 2 rfl) ?_
        refine g_gets hx hb hown E hS 6 (by decide) (gSt_6) kw_958 dX4_readLevel_61 ?_
        obtain ⟨q9, hq9, h⟩ := gbind_e h
        refine g_callV (As := [.ref (ad (100 + 6))]) (rest := []) hx hb (hml.trans hl.1.symm) hown E hM hS hy_X4_isWord kw_938 (c_X4_isWord_6 hq9) hk_1 dd_1 rfl rfl rfl (Nat.le_of_ble_eq_true rfl) ⟨Nat.le_of_ble_eq_true rfl, Nat.le_of_ble_eq_true rfl⟩ ⟨Nat.le_of_ble_eq_true rfl, Nat.le_of_ble_eq_true rfl⟩ dX4_readLevel_64 (fun H locs hM hS => ?_)
        refine lv_if_eq (tgt := 77) hx hb dX4_readLevel_67 (by decide) (fun c10 => ?_) (fun c10 => ?_)
        · replace h := gif_t c10 h
          exact wj_X4_readLevel_77 h F E hM hS (lv_sub hl [3, 1, 0] rfl)
        · replace h := gif_f c10 h
          refine lv_iload_n hx hb dX4_readLevel_70 rfl (lv_at hl 0 rfl) ?_
          refine lv_ineg hx hb dX4_readLevel_71 ?_
          refine lv_istore_n (lv' := [(3, .int (-(gi q6.2 1 7))), (2, .int (gi q3.2 1 6)), (0, .ref (ad 1)), (1, .ref (ad 47))]) hx hb dX4_readLevel_72 rfl hl (by decide) rfl (fun ls hl => ?_)
          refine lv_aload_n hx hb dX4_readLevel_73 rfl (lv_at hl 2 rfl) ?_
          obtain ⟨q13, hq13, h⟩ := gbind_e h
          refine g_callV (As := []) (rest := []) hx hb (hml.trans hl.1.symm) hown E hM hS hy_X4_advance kw_919 (c_X4_advance hq13) hk_1 dd_1 rfl rfl rfl (Nat.le_of_ble_eq_true rfl) ⟨Nat.le_of_ble_eq_true rfl, Nat.le_of_ble_eq_true rfl⟩ ⟨Nat.le_of_ble_eq_true rfl, Nat.le_of_ble_eq_true rfl⟩ dX4_readLevel_74 (fun H locs hM hS => ?_)
          exact wj_X4_readLevel_77 h F E hM hS (lv_sub hl [3, 1, 0] rfl)
      · replace h := gif_t c7 h
        refine lv_iconst (v := (0 : Int32)) hx hb dX4_readLevel_49 (by decide) ?_
        obtain rfl := Option.some.inj h
        exact g_zret (v := b2i false) hx hb hr hlocks (b2i_nar false) hM hS dX4_readLevel_50
    · replace h := gif_t c4 h
      refine lv_iconst (v := (0 : Int32)) hx hb dX4_readLevel_27 (by decide) ?_
      obtain rfl := Option.some.inj h
      exact g_zret (v := b2i false) hx hb hr hlocks (b2i_nar false) hM hS dX4_readLevel_28
  · replace h := gif_f c1 h
    refine lv_aload_n hx hb dX4_readLevel_8 rfl (lv_at hl 0 rfl) ?_
    refine lv_bipush (v := (-15 : Int32)) hx hb dX4_readLevel_9 (by decide) ?_
    obtain ⟨q14, hq14, h⟩ := gbind_e h
    refine g_callV (As := [.int (-15 : Int32)]) (rest := []) hx hb (hml.trans hl.1.symm) hown E hM hS hy_X4_fail kw_946 (c_X4_fail hq14) hk_1 dd_1 rfl rfl rfl (Nat.le_of_ble_eq_true rfl) ⟨Nat.le_of_ble_eq_true rfl, Nat.le_of_ble_eq_true rfl⟩ ⟨Nat.le_of_ble_eq_true rfl, Nat.le_of_ble_eq_true rfl⟩ dX4_readLevel_11 (fun H locs hM hS => ?_)
    obtain rfl := Option.some.inj h
    exact g_zret hx hb hr hlocks (b2i_nar _) hM hS dX4_readLevel_14
def f_X4_readStatement (μ : gM) : Option (Bool × gM) :=
  Option.bind (f_X4_isWord_5  μ) (fun q1 => if ((b2i q1) = 0) then Option.bind (f_X4_isWord_7  μ) (fun q3 => if ((b2i q3) = 0) then Option.bind (f_X4_isWord_8  μ) (fun q5 => if ((b2i q5) = 0) then Option.bind (f_X4_isWord_9  μ) (fun q7 => if ((b2i q7) = 0) then Option.bind (f_X4_isWord_10  μ) (fun q9 => if ((b2i q9) = 0) then Option.bind (f_X4_fail (-11 : Int32) μ) (fun q11 => some (q11.1, q11.2)) else Option.bind (f_X4_readSetting  μ) (fun q12 => some (q12.1, q12.2))) else Option.bind (f_X4_readTest  μ) (fun q13 => some (q13.1, q13.2))) else Option.bind (f_X4_readLine  μ) (fun q14 => some (q14.1, q14.2))) else Option.bind (f_X4_readPoint  μ) (fun q15 => some (q15.1, q15.2))) else Option.bind (f_X4_readLevel  μ) (fun q16 => some (q16.1, q16.2)))
set_option maxHeartbeats 4000000 in
set_option maxRecDepth 100000 in
theorem c_X4_readStatement {l : Launch} {D : va_G} {cy : Nat → ClassId} {ad : Nat → Nat} {base : gBs}  {μ : gM} {RES : Bool × gM} (h : f_X4_readStatement  μ = some RES) : Met l yX4_readStatement [.code yX4_readStatement cX4_readStatement 2 (some .boolean)] ({ frames := 4, cells := 0, slots := 0, locals := 89 } : Room) (va_Pc [.ref (ad 1), .ref (ad 47)] (gB l gFull D cy ad base μ)) (gQ (some (.int (b2i RES.1))) gFull D cy ad base RES.2) 0 0 (gA base) := by
  refine Met.ofW (cc := cX4_readStatement) (maxL := 2) (ret := (some .boolean)) (by decide) rfl ?_
  intro p e s m args below meth c s₁ B hml0 hv
  obtain ⟨rfl, E, hM⟩ := hv
  have F : gF p s m meth c cX4_readStatement RX4 2 (some .boolean) := gF_of B hml0
  obtain ⟨hx, hb, hml, hown, hlocks, hr⟩ := id F
  have hS : va_S (gA base) s.heap s.heap [] := va_S.rf
  have hl := lv_entry ([.ref (ad 1), .ref (ad 47)]) (n := 2) (Nat.le_of_ble_eq_true rfl)
  rw [lg_entry_eq]
  generalize (lg_sl ([.ref (ad 1), .ref (ad 47)]) ++ List.replicate (2 - (lg_sl ([.ref (ad 1), .ref (ad 47)])).length) Slot.unset).toArray = ls at hl ⊢
  have hl : lv_has ls 2 [(0, .ref (ad 1)), (1, .ref (ad 47))] := hl
  unfold f_X4_readStatement at h
  refine lv_aload_n hx hb dX4_readStatement_0 rfl (lv_at hl 0 rfl) ?_
  refine g_gets hx hb hown E hS 5 (by decide) (gSt_5) kw_936 dX4_readStatement_1 ?_
  obtain ⟨q1, hq1, h⟩ := gbind_e h
  refine g_callV (As := [.ref (ad (100 + 5))]) (rest := []) hx hb (hml.trans hl.1.symm) hown E hM hS hy_X4_isWord kw_938 (c_X4_isWord_5 hq1) hk_1 dd_1 rfl rfl rfl (Nat.le_of_ble_eq_true rfl) ⟨Nat.le_of_ble_eq_true rfl, Nat.le_of_ble_eq_true rfl⟩ ⟨Nat.le_of_ble_eq_true rfl, Nat.le_of_ble_eq_true rfl⟩ dX4_readStatement_4 (fun H locs hM hS => ?_)
  refine lv_if_eq (tgt := 16) hx hb dX4_readStatement_7 (by decide) (fun c2 => ?_) (fun c2 => ?_)
  · replace h := gif_t c2 h
    refine lv_aload_n hx hb dX4_readStatement_16 rfl (lv_at hl 0 rfl) ?_
    refine g_gets hx hb hown E hS 7 (by decide) (gSt_7) kw_960 dX4_readStatement_17 ?_
    obtain ⟨q3, hq3, h⟩ := gbind_e h
    refine g_callV (As := [.ref (ad (100 + 7))]) (rest := []) hx hb (hml.trans hl.1.symm) hown E hM hS hy_X4_isWord kw_938 (c_X4_isWord_7 hq3) hk_1 dd_1 rfl rfl rfl (Nat.le_of_ble_eq_true rfl) ⟨Nat.le_of_ble_eq_true rfl, Nat.le_of_ble_eq_true rfl⟩ ⟨Nat.le_of_ble_eq_true rfl, Nat.le_of_ble_eq_true rfl⟩ dX4_readStatement_20 (fun H locs hM hS => ?_)
    refine lv_if_eq (tgt := 32) hx hb dX4_readStatement_23 (by decide) (fun c4 => ?_) (fun c4 => ?_)
    · replace h := gif_t c4 h
      refine lv_aload_n hx hb dX4_readStatement_32 rfl (lv_at hl 0 rfl) ?_
      refine g_gets hx hb hown E hS 8 (by decide) (gSt_8) kw_962 dX4_readStatement_33 ?_
      obtain ⟨q5, hq5, h⟩ := gbind_e h
      refine g_callV (As := [.ref (ad (100 + 8))]) (rest := []) hx hb (hml.trans hl.1.symm) hown E hM hS hy_X4_isWord kw_938 (c_X4_isWord_8 hq5) hk_1 dd_1 rfl rfl rfl (Nat.le_of_ble_eq_true rfl) ⟨Nat.le_of_ble_eq_true rfl, Nat.le_of_ble_eq_true rfl⟩ ⟨Nat.le_of_ble_eq_true rfl, Nat.le_of_ble_eq_true rfl⟩ dX4_readStatement_36 (fun H locs hM hS => ?_)
      refine lv_if_eq (tgt := 48) hx hb dX4_readStatement_39 (by decide) (fun c6 => ?_) (fun c6 => ?_)
      · replace h := gif_t c6 h
        refine lv_aload_n hx hb dX4_readStatement_48 rfl (lv_at hl 0 rfl) ?_
        refine g_gets hx hb hown E hS 9 (by decide) (gSt_9) kw_964 dX4_readStatement_49 ?_
        obtain ⟨q7, hq7, h⟩ := gbind_e h
        refine g_callV (As := [.ref (ad (100 + 9))]) (rest := []) hx hb (hml.trans hl.1.symm) hown E hM hS hy_X4_isWord kw_938 (c_X4_isWord_9 hq7) hk_1 dd_1 rfl rfl rfl (Nat.le_of_ble_eq_true rfl) ⟨Nat.le_of_ble_eq_true rfl, Nat.le_of_ble_eq_true rfl⟩ ⟨Nat.le_of_ble_eq_true rfl, Nat.le_of_ble_eq_true rfl⟩ dX4_readStatement_52 (fun H locs hM hS => ?_)
        refine lv_if_eq (tgt := 64) hx hb dX4_readStatement_55 (by decide) (fun c8 => ?_) (fun c8 => ?_)
        · replace h := gif_t c8 h
          refine lv_aload_n hx hb dX4_readStatement_64 rfl (lv_at hl 0 rfl) ?_
          refine g_gets hx hb hown E hS 10 (by decide) (gSt_10) kw_966 dX4_readStatement_65 ?_
          obtain ⟨q9, hq9, h⟩ := gbind_e h
          refine g_callV (As := [.ref (ad (100 + 10))]) (rest := []) hx hb (hml.trans hl.1.symm) hown E hM hS hy_X4_isWord kw_938 (c_X4_isWord_10 hq9) hk_1 dd_1 rfl rfl rfl (Nat.le_of_ble_eq_true rfl) ⟨Nat.le_of_ble_eq_true rfl, Nat.le_of_ble_eq_true rfl⟩ ⟨Nat.le_of_ble_eq_true rfl, Nat.le_of_ble_eq_true rfl⟩ dX4_readStatement_68 (fun H locs hM hS => ?_)
          refine lv_if_eq (tgt := 82) hx hb dX4_readStatement_71 (by decide) (fun c10 => ?_) (fun c10 => ?_)
          · replace h := gif_t c10 h
            refine lv_aload_n hx hb dX4_readStatement_82 rfl (lv_at hl 0 rfl) ?_
            refine lv_bipush (v := (-11 : Int32)) hx hb dX4_readStatement_83 (by decide) ?_
            obtain ⟨q11, hq11, h⟩ := gbind_e h
            refine g_callV (As := [.int (-11 : Int32)]) (rest := []) hx hb (hml.trans hl.1.symm) hown E hM hS hy_X4_fail kw_946 (c_X4_fail hq11) hk_1 dd_1 rfl rfl rfl (Nat.le_of_ble_eq_true rfl) ⟨Nat.le_of_ble_eq_true rfl, Nat.le_of_ble_eq_true rfl⟩ ⟨Nat.le_of_ble_eq_true rfl, Nat.le_of_ble_eq_true rfl⟩ dX4_readStatement_85 (fun H locs hM hS => ?_)
            obtain rfl := Option.some.inj h
            exact g_zret hx hb hr hlocks (b2i_nar _) hM hS dX4_readStatement_88
          · replace h := gif_f c10 h
            refine lv_aload_n hx hb dX4_readStatement_74 rfl (lv_at hl 0 rfl) ?_
            refine lv_aload_n hx hb dX4_readStatement_75 rfl (lv_at hl 1 rfl) ?_
            obtain ⟨q12, hq12, h⟩ := gbind_e h
            refine g_callV (As := [.ref (ad 47)]) (rest := []) hx hb (hml.trans hl.1.symm) hown E hM hS hy_X4_readSetting kw_1011 (c_X4_readSetting hq12) hk_1 dd_1 rfl rfl rfl (Nat.le_of_ble_eq_true rfl) ⟨Nat.le_of_ble_eq_true rfl, Nat.le_of_ble_eq_true rfl⟩ ⟨Nat.le_of_ble_eq_true rfl, Nat.le_of_ble_eq_true rfl⟩ dX4_readStatement_76 (fun H locs hM hS => ?_)
            refine lv_goto (tgt := 88) hx hb dX4_readStatement_79 (by decide) ?_
            obtain rfl := Option.some.inj h
            exact g_zret hx hb hr hlocks (b2i_nar _) hM hS dX4_readStatement_88
        · replace h := gif_f c8 h
          refine lv_aload_n hx hb dX4_readStatement_58 rfl (lv_at hl 0 rfl) ?_
          refine lv_aload_n hx hb dX4_readStatement_59 rfl (lv_at hl 1 rfl) ?_
          obtain ⟨q13, hq13, h⟩ := gbind_e h
          refine g_callV (As := [.ref (ad 47)]) (rest := []) hx hb (hml.trans hl.1.symm) hown E hM hS hy_X4_readTest kw_1007 (c_X4_readTest hq13) hk_1 dd_1 rfl rfl rfl (Nat.le_of_ble_eq_true rfl) ⟨Nat.le_of_ble_eq_true rfl, Nat.le_of_ble_eq_true rfl⟩ ⟨Nat.le_of_ble_eq_true rfl, Nat.le_of_ble_eq_true rfl⟩ dX4_readStatement_60 (fun H locs hM hS => ?_)
          obtain rfl := Option.some.inj h
          exact g_zret hx hb hr hlocks (b2i_nar _) hM hS dX4_readStatement_63
      · replace h := gif_f c6 h
        refine lv_aload_n hx hb dX4_readStatement_42 rfl (lv_at hl 0 rfl) ?_
        refine lv_aload_n hx hb dX4_readStatement_43 rfl (lv_at hl 1 rfl) ?_
        obtain ⟨q14, hq14, h⟩ := gbind_e h
        refine g_callV (As := [.ref (ad 47)]) (rest := []) hx hb (hml.trans hl.1.symm) hown E hM hS hy_X4_readLine kw_986 (c_X4_readLine hq14) hk_1 dd_1 rfl rfl rfl (Nat.le_of_ble_eq_true rfl) ⟨Nat.le_of_ble_eq_true rfl, Nat.le_of_ble_eq_true rfl⟩ ⟨Nat.le_of_ble_eq_true rfl, Nat.le_of_ble_eq_true rfl⟩ dX4_readStatement_44 (fun H locs hM hS => ?_)
        obtain rfl := Option.some.inj h
        exact g_zret hx hb hr hlocks (b2i_nar _) hM hS dX4_readStatement_47
    · replace h := gif_f c4 h
      refine lv_aload_n hx hb dX4_readStatement_26 rfl (lv_at hl 0 rfl) ?_
      refine lv_aload_n hx hb dX4_readStatement_27 rfl (lv_at hl 1 rfl) ?_
      obtain ⟨q15, hq15, h⟩ := gbind_e h
      refine g_callV (As := [.ref (ad 47)]) (rest := []) hx hb (hml.trans hl.1.symm) hown E hM hS hy_X4_readPoint kw_982 (c_X4_readPoint hq15) hk_1 dd_1 rfl rfl rfl (Nat.le_of_ble_eq_true rfl) ⟨Nat.le_of_ble_eq_true rfl, Nat.le_of_ble_eq_true rfl⟩ ⟨Nat.le_of_ble_eq_true rfl, Nat.le_of_ble_eq_true rfl⟩ dX4_readStatement_28 (fun H locs hM hS => ?_)
      obtain rfl := Option.some.inj h
      exact g_zret hx hb hr hlocks (b2i_nar _) hM hS dX4_readStatement_31
  · replace h := gif_f c2 h
    refine lv_aload_n hx hb dX4_readStatement_10 rfl (lv_at hl 0 rfl) ?_
    refine lv_aload_n hx hb dX4_readStatement_11 rfl (lv_at hl 1 rfl) ?_
    obtain ⟨q16, hq16, h⟩ := gbind_e h
    refine g_callV (As := [.ref (ad 47)]) (rest := []) hx hb (hml.trans hl.1.symm) hown E hM hS hy_X4_readLevel kw_942 (c_X4_readLevel hq16) hk_1 dd_1 rfl rfl rfl (Nat.le_of_ble_eq_true rfl) ⟨Nat.le_of_ble_eq_true rfl, Nat.le_of_ble_eq_true rfl⟩ ⟨Nat.le_of_ble_eq_true rfl, Nat.le_of_ble_eq_true rfl⟩ dX4_readStatement_12 (fun H locs hM hS => ?_)
    obtain rfl := Option.some.inj h
    exact g_zret hx hb hr hlocks (b2i_nar _) hM hS dX4_readStatement_15
def b_X4_readText_25 (x2 : Int32) (x3 : Int32) (μ : gM) : Option ((Int32 × gM) ⊕ ((gM) ⊕ (Int32 × gM))) :=
  if (x2 < x3) then some (.inr (.inl μ)) else if ((gi μ 1 5) = 0) then some (.inr (.inr (x3, μ))) else Option.bind (f_X4_readStatement  μ) (fun q5 => if ((b2i q5.1) = 0) then some (.inr (.inr ((gi q5.2 1 8), q5.2))) else if ((gi q5.2 1 5) = (3 : Int32)) then Option.bind (f_X4_advance  q5.2) (fun q8 => some (.inl ((x3 + (1 : Int32)), q8))) else some (.inr (.inr ((-11 : Int32), q5.2))))
set_option maxHeartbeats 4000000 in
set_option maxRecDepth 100000 in
theorem wb_X4_readText_25 {p : Program} {l : Launch} {e : Env} {s : State} {m : MethodId} {args : Array Value} {below : List Frame} {meth : Method} {c : Code} {D : va_G} {cy : Nat → ClassId} {ad : Nat → Nat} {base : gBs} {x2 : Int32} {x3 : Int32} {μ : gM} {o : (Int32 × gM) ⊕ ((gM) ⊕ (Int32 × gM))} {RES : Int32 × gM} (h : b_X4_readText_25 x2 x3 μ = some o) (F : gF p s m meth c cX4_readText RX4 4 (some .int)) (E : gEnv l D cy ad base s) (kc : ∀ (t : Int32 × gM) {H : Heap} {locs : List Loc} {ls : Array Slot}, o = .inl t → gW gFull D cy ad base t.2 H → va_S (gA base) s.heap H locs → lv_has ls 4 [(0, .ref (ad 1)), (1, .ref (ad 47)), (2, .int x2), (3, .int t.1)] → W p l e ({ frames := 5, cells := 0, slots := 0, locals := 110 } : Room) s m args below meth c H locs 0 0 (MQ below (gQ (some (.int RES.1)) gFull D cy ad base RES.2) args s 0 0 (gA base)) (F0 m 25 ls [])) (kx : ∀ (t : gM) {H : Heap} {locs : List Loc} {ls : Array Slot}, o = .inr (.inl t) → gW gFull D cy ad base t H → va_S (gA base) s.heap H locs → lv_has ls 4 [] → W p l e ({ frames := 5, cells := 0, slots := 0, locals := 110 } : Room) s m args below meth c H locs 0 0 (MQ below (gQ (some (.int RES.1)) gFull D cy ad base RES.2) args s 0 0 (gA base)) (F0 m 73 ls [])) (kr : ∀ x : Int32 × gM, o = .inr (.inr x) → x = RES) {H : Heap} {locs : List Loc} {ls : Array Slot} (hM : gW gFull D cy ad base μ H) (hS : va_S (gA base) s.heap H locs) (hl : lv_has ls 4 [(0, .ref (ad 1)), (1, .ref (ad 47)), (2, .int x2), (3, .int x3)]) : W p l e ({ frames := 5, cells := 0, slots := 0, locals := 110 } : Room) s m args below meth c H locs 0 0 (MQ below (gQ (some (.int RES.1)) gFull D cy ad base RES.2) args s 0 0 (gA base)) (F0 m 25 ls []) := by
  obtain ⟨hx, hb, hml, hown, hlocks, hr⟩ := id F
  unfold b_X4_readText_25 at h
  refine lv_iload_n hx hb dX4_readText_25 rfl (lv_at hl 3 rfl) ?_
  refine lv_iload_n hx hb dX4_readText_26 rfl (lv_at hl 2 rfl) ?_
  refine lv_icmp_gt (tgt := 73) hx hb dX4_readText_27 (by decide) (fun c3 => ?_) (fun c3 => ?_)
  · replace h := gif_t c3 h
    exact kx _ (Option.some.inj h).symm hM hS (lv_sub hl [] rfl)
  · replace h := gif_f c3 h
    refine lv_aload_n hx hb dX4_readText_30 rfl (lv_at hl 0 rfl) ?_
    refine gg_1_5 hx hb hown E hM hk_1 kw_181 dX4_readText_31 ?_
    refine lv_if_ne (tgt := 39) hx hb dX4_readText_34 (by decide) (fun c4 => ?_) (fun c4 => ?_)
    · replace h := gif_f c4 h
      refine lv_aload_n hx hb dX4_readText_39 rfl (lv_at hl 0 rfl) ?_
      refine lv_aload_n hx hb dX4_readText_40 rfl (lv_at hl 1 rfl) ?_
      obtain ⟨q5, hq5, h⟩ := gbind_e h
      refine g_callV (As := [.ref (ad 47)]) (rest := []) hx hb (hml.trans hl.1.symm) hown E hM hS hy_X4_readStatement kw_932 (c_X4_readStatement hq5) hk_1 dd_1 rfl rfl rfl (Nat.le_of_ble_eq_true rfl) ⟨Nat.le_of_ble_eq_true rfl, Nat.le_of_ble_eq_true rfl⟩ ⟨Nat.le_of_ble_eq_true rfl, Nat.le_of_ble_eq_true rfl⟩ dX4_readText_41 (fun H locs hM hS => ?_)
      refine lv_if_ne (tgt := 52) hx hb dX4_readText_44 (by decide) (fun c6 => ?_) (fun c6 => ?_)
      · replace h := gif_f c6 h
        refine lv_aload_n hx hb dX4_readText_52 rfl (lv_at hl 0 rfl) ?_
        refine gg_1_5 hx hb hown E hM hk_1 kw_181 dX4_readText_53 ?_
        refine lv_iconst (v := (3 : Int32)) hx hb dX4_readText_56 (by decide) ?_
        refine lv_icmp_eq (tgt := 63) hx hb dX4_readText_57 (by decide) (fun c7 => ?_) (fun c7 => ?_)
        · replace h := gif_t c7 h
          refine lv_aload_n hx hb dX4_readText_63 rfl (lv_at hl 0 rfl) ?_
          obtain ⟨q8, hq8, h⟩ := gbind_e h
          refine g_callV (As := []) (rest := []) hx hb (hml.trans hl.1.symm) hown E hM hS hy_X4_advance kw_919 (c_X4_advance hq8) hk_1 dd_1 rfl rfl rfl (Nat.le_of_ble_eq_true rfl) ⟨Nat.le_of_ble_eq_true rfl, Nat.le_of_ble_eq_true rfl⟩ ⟨Nat.le_of_ble_eq_true rfl, Nat.le_of_ble_eq_true rfl⟩ dX4_readText_64 (fun H locs hM hS => ?_)
          refine lv_iinc (v := (x3 + (1 : Int32))) (lv' := [(3, .int (x3 + (1 : Int32))), (0, .ref (ad 1)), (1, .ref (ad 47)), (2, .int x2)]) hx hb dX4_readText_67 hl (k := 3) rfl rfl (by decide) rfl (fun ls hl => ?_)
          refine lv_goto (tgt := 25) hx hb dX4_readText_70 (by decide) ?_
          exact kc _ (Option.some.inj h).symm hM hS (lv_sub hl [1, 2, 3, 0] rfl)
        · replace h := gif_f c7 h
          refine lv_bipush (v := (-11 : Int32)) hx hb dX4_readText_60 (by decide) ?_
          obtain rfl := kr _ (Option.some.inj h).symm
          exact g_iret hx hb hr hlocks hM hS dX4_readText_62
      · replace h := gif_t c6 h
        refine lv_aload_n hx hb dX4_readText_47 rfl (lv_at hl 0 rfl) ?_
        refine gg_1_8 hx hb hown E hM hk_1 kw_184 dX4_readText_48 ?_
        obtain rfl := kr _ (Option.some.inj h).symm
        exact g_iret hx hb hr hlocks hM hS dX4_readText_51
    · replace h := gif_t c4 h
      refine lv_iload_n hx hb dX4_readText_37 rfl (lv_at hl 3 rfl) ?_
      obtain rfl := kr _ (Option.some.inj h).symm
      exact g_iret hx hb hr hlocks hM hS dX4_readText_38
set_option maxHeartbeats 4000000 in
theorem wl_X4_readText_25 {p : Program} {l : Launch} {e : Env} {s : State} {m : MethodId} {args : Array Value} {below : List Frame} {meth : Method} {c : Code} {D : va_G} {cy : Nat → ClassId} {ad : Nat → Nat} {base : gBs} {x2 : Int32} {r : (gM) ⊕ (Int32 × gM)} {RES : Int32 × gM} (F : gF p s m meth c cX4_readText RX4 4 (some .int)) (E : gEnv l D cy ad base s) (kx : ∀ (t : gM) {H : Heap} {locs : List Loc} {ls : Array Slot}, r = .inl t → gW gFull D cy ad base t H → va_S (gA base) s.heap H locs → lv_has ls 4 [] → W p l e ({ frames := 5, cells := 0, slots := 0, locals := 110 } : Room) s m args below meth c H locs 0 0 (MQ below (gQ (some (.int RES.1)) gFull D cy ad base RES.2) args s 0 0 (gA base)) (F0 m 73 ls [])) (kr : ∀ x : Int32 × gM, r = .inr x → x = RES) : ∀ (n : Nat) (x3 : Int32) (μ : gM), gloop (fun t => b_X4_readText_25 x2 t.1 t.2) n (x3, μ) = some r → ∀ {H : Heap} {locs : List Loc} {ls : Array Slot}, gW gFull D cy ad base μ H → va_S (gA base) s.heap H locs → lv_has ls 4 [(0, .ref (ad 1)), (1, .ref (ad 47)), (2, .int x2), (3, .int x3)] → W p l e ({ frames := 5, cells := 0, slots := 0, locals := 110 } : Room) s m args below meth c H locs 0 0 (MQ below (gQ (some (.int RES.1)) gFull D cy ad base RES.2) args s 0 0 (gA base)) (F0 m 25 ls []) := by
  intro n
  induction n with
  | zero =>
    intro x3 μ h
    exact (gloop_0 h).elim
  | succ n ih =>
    intro x3 μ h H locs ls hM hS hl
    obtain ⟨o, h0, hc, hq⟩ := gloop_s h
    have h1 : b_X4_readText_25 x2 x3 μ = some o := h0
    exact wb_X4_readText_25 h1 F E (fun t H locs ls ho hM hS hl => ih t.1 t.2 (hc t ho) hM hS hl) (fun t H locs ls ho hM hS hl => kx t (hq _ ho).symm hM hS hl) (fun x ho => kr x (hq _ ho).symm) hM hS hl
def f_X4_readText (p2 : Int32) (μ : gM) : Option (Int32 × gM) :=
  Option.bind (f_X3b_clear  (si (si (si μ 1 2 p2) 1 4 (0 : Int32)) 1 9 (0 : Int32))) (fun q1 => Option.bind (f_X4_advance  q1) (fun q2 => Option.bind (gloop (fun t => b_X4_readText_25 p2 t.1 t.2) gFuel ((0 : Int32), q2)) (fun q9 => Sum.elim (fun t10 => some ((-11 : Int32), t10)) (fun x => some x) q9)))
set_option maxHeartbeats 4000000 in
set_option maxRecDepth 100000 in
theorem c_X4_readText {l : Launch} {D : va_G} {cy : Nat → ClassId} {ad : Nat → Nat} {base : gBs} {p2 : Int32} {μ : gM} {RES : Int32 × gM} (h : f_X4_readText p2 μ = some RES) : Met l yX4_readText [.code yX4_readText cX4_readText 4 (some .int)] ({ frames := 5, cells := 0, slots := 0, locals := 110 } : Room) (va_Pc [.ref (ad 1), .ref (ad 47), .int p2] (gB l gFull D cy ad base μ)) (gQ (some (.int RES.1)) gFull D cy ad base RES.2) 0 0 (gA base) := by
  refine Met.ofW (cc := cX4_readText) (maxL := 4) (ret := (some .int)) (by decide) rfl ?_
  intro p e s m args below meth c s₁ B hml0 hv
  obtain ⟨rfl, E, hM⟩ := hv
  have F : gF p s m meth c cX4_readText RX4 4 (some .int) := gF_of B hml0
  obtain ⟨hx, hb, hml, hown, hlocks, hr⟩ := id F
  have hS : va_S (gA base) s.heap s.heap [] := va_S.rf
  have hl := lv_entry ([.ref (ad 1), .ref (ad 47), .int p2]) (n := 4) (Nat.le_of_ble_eq_true rfl)
  rw [lg_entry_eq]
  generalize (lg_sl ([.ref (ad 1), .ref (ad 47), .int p2]) ++ List.replicate (4 - (lg_sl ([.ref (ad 1), .ref (ad 47), .int p2])).length) Slot.unset).toArray = ls at hl ⊢
  have hl : lv_has ls 4 [(0, .ref (ad 1)), (1, .ref (ad 47)), (2, .int p2)] := hl
  unfold f_X4_readText at h
  refine lv_aload_n hx hb dX4_readText_0 rfl (lv_at hl 0 rfl) ?_
  refine lv_iload_n hx hb dX4_readText_1 rfl (lv_at hl 2 rfl) ?_
  refine gp_1_2 hx hb hown E hM hS hk_1 kw_177 dX4_readText_2 (fun H locs hM hS => ?_)
  refine lv_aload_n hx hb dX4_readText_5 rfl (lv_at hl 0 rfl) ?_
  refine lv_iconst (v := (0 : Int32)) hx hb dX4_readText_6 (by decide) ?_
  refine gp_1_4 hx hb hown E hM hS hk_1 kw_180 dX4_readText_7 (fun H locs hM hS => ?_)
  refine lv_aload_n hx hb dX4_readText_10 rfl (lv_at hl 0 rfl) ?_
  refine lv_iconst (v := (0 : Int32)) hx hb dX4_readText_11 (by decide) ?_
  refine gp_1_9 hx hb hown E hM hS hk_1 kw_185 dX4_readText_12 (fun H locs hM hS => ?_)
  refine lv_aload_n hx hb dX4_readText_15 rfl (lv_at hl 1 rfl) ?_
  obtain ⟨q1, hq1, h⟩ := gbind_e h
  refine g_callV (As := []) (rest := []) hx hb (hml.trans hl.1.symm) hown E hM hS hy_X3_clear kw_918 (c_X3b_clear hq1) hk_47 dd_47 rfl rfl rfl (Nat.le_of_ble_eq_true rfl) ⟨Nat.le_of_ble_eq_true rfl, Nat.le_of_ble_eq_true rfl⟩ ⟨Nat.le_of_ble_eq_true rfl, Nat.le_of_ble_eq_true rfl⟩ dX4_readText_16 (fun H locs hM hS => ?_)
  refine lv_aload_n hx hb dX4_readText_19 rfl (lv_at hl 0 rfl) ?_
  obtain ⟨q2, hq2, h⟩ := gbind_e h
  refine g_callV (As := []) (rest := []) hx hb (hml.trans hl.1.symm) hown E hM hS hy_X4_advance kw_919 (c_X4_advance hq2) hk_1 dd_1 rfl rfl rfl (Nat.le_of_ble_eq_true rfl) ⟨Nat.le_of_ble_eq_true rfl, Nat.le_of_ble_eq_true rfl⟩ ⟨Nat.le_of_ble_eq_true rfl, Nat.le_of_ble_eq_true rfl⟩ dX4_readText_20 (fun H locs hM hS => ?_)
  refine lv_iconst (v := (0 : Int32)) hx hb dX4_readText_23 (by decide) ?_
  refine lv_istore_n (lv' := [(3, .int (0 : Int32)), (0, .ref (ad 1)), (1, .ref (ad 47)), (2, .int p2)]) hx hb dX4_readText_24 rfl hl (by decide) rfl (fun ls hl => ?_)
  obtain ⟨q9, h1, h⟩ := gbind_e h
  refine wl_X4_readText_25 F E (r := q9) (fun t10 H locs ls e1 hM hS hl => ?_) (fun x ex => ?_) gFuel (0 : Int32) q2 h1 hM hS (lv_sub hl [1, 2, 3, 0] rfl)
  · replace h := gsum_l e1 h
    refine lv_bipush (v := (-11 : Int32)) hx hb dX4_readText_73 (by decide) ?_
    obtain rfl := Option.some.inj h
    exact g_iret hx hb hr hlocks hM hS dX4_readText_75
  · exact Option.some.inj (gsum_r ex h)
