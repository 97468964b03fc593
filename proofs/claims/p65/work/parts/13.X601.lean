theorem dX6_shorten_0 : decode cX6_shorten 0 = .ok (.aload_n 0, 1) := by decide +kernel
theorem dX6_shorten_1 : decode cX6_shorten 1 = .ok (.getfield 9, 3) := by decide +kernel
theorem dX6_shorten_4 : decode cX6_shorten 4 = .ok (.iload_n 1, 1) := by decide +kernel
theorem dX6_shorten_5 : decode cX6_shorten 5 = .ok (.iaload, 1) := by decide +kernel
theorem dX6_shorten_6 : decode cX6_shorten 6 = .ok (.iconst (-1), 1) := by decide +kernel
theorem dX6_shorten_7 : decode cX6_shorten 7 = .ok (.if_icmp .ne 5, 3) := by decide +kernel
theorem dX6_shorten_10 : decode cX6_shorten 10 = .ok (.iconst 0, 1) := by decide +kernel
theorem dX6_shorten_11 : decode cX6_shorten 11 = .ok (.ireturn, 1) := by decide +kernel
theorem dX6_shorten_12 : decode cX6_shorten 12 = .ok (.aload_n 0, 1) := by decide +kernel
theorem dX6_shorten_13 : decode cX6_shorten 13 = .ok (.getfield 9, 3) := by decide +kernel
theorem dX6_shorten_16 : decode cX6_shorten 16 = .ok (.iload_n 1, 1) := by decide +kernel
theorem dX6_shorten_17 : decode cX6_shorten 17 = .ok (.iaload, 1) := by decide +kernel
theorem dX6_shorten_18 : decode cX6_shorten 18 = .ok (.iload_n 3, 1) := by decide +kernel
theorem dX6_shorten_19 : decode cX6_shorten 19 = .ok (.iadd, 1) := by decide +kernel
theorem dX6_shorten_20 : decode cX6_shorten 20 = .ok (.istore 4, 2) := by decide +kernel
theorem dX6_shorten_22 : decode cX6_shorten 22 = .ok (.aload_n 0, 1) := by decide +kernel
theorem dX6_shorten_23 : decode cX6_shorten 23 = .ok (.getfield 9, 3) := by decide +kernel
theorem dX6_shorten_26 : decode cX6_shorten 26 = .ok (.iload_n 2, 1) := by decide +kernel
theorem dX6_shorten_27 : decode cX6_shorten 27 = .ok (.iaload, 1) := by decide +kernel
theorem dX6_shorten_28 : decode cX6_shorten 28 = .ok (.iconst (-1), 1) := by decide +kernel
theorem dX6_shorten_29 : decode cX6_shorten 29 = .ok (.if_icmp .eq 16, 3) := by decide +kernel
theorem dX6_shorten_32 : decode cX6_shorten 32 = .ok (.aload_n 0, 1) := by decide +kernel
theorem dX6_shorten_33 : decode cX6_shorten 33 = .ok (.getfield 9, 3) := by decide +kernel
theorem dX6_shorten_36 : decode cX6_shorten 36 = .ok (.iload_n 2, 1) := by decide +kernel
theorem dX6_shorten_37 : decode cX6_shorten 37 = .ok (.iaload, 1) := by decide +kernel
theorem dX6_shorten_38 : decode cX6_shorten 38 = .ok (.iload 4, 2) := by decide +kernel
theorem dX6_shorten_40 : decode cX6_shorten 40 = .ok (.if_icmp .gt 5, 3) := by decide +kernel
theorem dX6_shorten_43 : decode cX6_shorten 43 = .ok (.iconst 0, 1) := by decide +kernel
theorem dX6_shorten_44 : decode cX6_shorten 44 = .ok (.ireturn, 1) := by decide +kernel
theorem dX6_shorten_45 : decode cX6_shorten 45 = .ok (.aload_n 0, 1) := by decide +kernel
theorem dX6_shorten_46 : decode cX6_shorten 46 = .ok (.getfield 9, 3) := by decide +kernel
theorem dX6_shorten_49 : decode cX6_shorten 49 = .ok (.iload_n 2, 1) := by decide +kernel
theorem dX6_shorten_50 : decode cX6_shorten 50 = .ok (.iload 4, 2) := by decide +kernel
theorem dX6_shorten_52 : decode cX6_shorten 52 = .ok (.iastore, 1) := by decide +kernel
theorem dX6_shorten_53 : decode cX6_shorten 53 = .ok (.iconst 1, 1) := by decide +kernel
theorem dX6_shorten_54 : decode cX6_shorten 54 = .ok (.ireturn, 1) := by decide +kernel
theorem dX6_shortenAll_0 : decode cX6_shortenAll 0 = .ok (.iconst 0, 1) := by decide +kernel
theorem dX6_shortenAll_1 : decode cX6_shortenAll 1 = .ok (.istore_n 2, 1) := by decide +kernel
theorem dX6_shortenAll_2 : decode cX6_shortenAll 2 = .ok (.iconst 0, 1) := by decide +kernel
theorem dX6_shortenAll_3 : decode cX6_shortenAll 3 = .ok (.istore_n 3, 1) := by decide +kernel
theorem dX6_shortenAll_4 : decode cX6_shortenAll 4 = .ok (.iload_n 3, 1) := by decide +kernel
theorem dX6_shortenAll_5 : decode cX6_shortenAll 5 = .ok (.aload_n 1, 1) := by decide +kernel
theorem dX6_shortenAll_6 : decode cX6_shortenAll 6 = .ok (.getfield 24, 3) := by decide +kernel
theorem dX6_shortenAll_9 : decode cX6_shortenAll 9 = .ok (.if_icmp .ge 85, 3) := by decide +kernel
theorem dX6_shortenAll_12 : decode cX6_shortenAll 12 = .ok (.aload_n 1, 1) := by decide +kernel
theorem dX6_shortenAll_13 : decode cX6_shortenAll 13 = .ok (.iload_n 3, 1) := by decide +kernel
theorem dX6_shortenAll_14 : decode cX6_shortenAll 14 = .ok (.invokevirtual 35, 3) := by decide +kernel
theorem dX6_shortenAll_17 : decode cX6_shortenAll 17 = .ok (.ifCond .eq 71, 3) := by decide +kernel
theorem dX6_shortenAll_20 : decode cX6_shortenAll 20 = .ok (.aload_n 1, 1) := by decide +kernel
theorem dX6_shortenAll_21 : decode cX6_shortenAll 21 = .ok (.getfield 39, 3) := by decide +kernel
theorem dX6_shortenAll_24 : decode cX6_shortenAll 24 = .ok (.iload_n 3, 1) := by decide +kernel
theorem dX6_shortenAll_25 : decode cX6_shortenAll 25 = .ok (.iaload, 1) := by decide +kernel
theorem dX6_shortenAll_26 : decode cX6_shortenAll 26 = .ok (.istore 4, 2) := by decide +kernel
theorem dX6_shortenAll_28 : decode cX6_shortenAll 28 = .ok (.aload_n 1, 1) := by decide +kernel
theorem dX6_shortenAll_29 : decode cX6_shortenAll 29 = .ok (.getfield 42, 3) := by decide +kernel
theorem dX6_shortenAll_32 : decode cX6_shortenAll 32 = .ok (.iload_n 3, 1) := by decide +kernel
theorem dX6_shortenAll_33 : decode cX6_shortenAll 33 = .ok (.iaload, 1) := by decide +kernel
theorem dX6_shortenAll_34 : decode cX6_shortenAll 34 = .ok (.istore 5, 2) := by decide +kernel
theorem dX6_shortenAll_36 : decode cX6_shortenAll 36 = .ok (.aload_n 0, 1) := by decide +kernel
theorem dX6_shortenAll_37 : decode cX6_shortenAll 37 = .ok (.iload 4, 2) := by decide +kernel
theorem dX6_shortenAll_39 : decode cX6_shortenAll 39 = .ok (.iload 5, 2) := by decide +kernel
theorem dX6_shortenAll_41 : decode cX6_shortenAll 41 = .ok (.aload_n 0, 1) := by decide +kernel
theorem dX6_shortenAll_42 : decode cX6_shortenAll 42 = .ok (.getfield 15, 3) := by decide +kernel
theorem dX6_shortenAll_45 : decode cX6_shortenAll 45 = .ok (.iload_n 3, 1) := by decide +kernel
theorem dX6_shortenAll_46 : decode cX6_shortenAll 46 = .ok (.iaload, 1) := by decide +kernel
theorem dX6_shortenAll_47 : decode cX6_shortenAll 47 = .ok (.invokevirtual 45, 3) := by decide +kernel
theorem dX6_shortenAll_50 : decode cX6_shortenAll 50 = .ok (.istore 6, 2) := by decide +kernel
theorem dX6_shortenAll_52 : decode cX6_shortenAll 52 = .ok (.aload_n 0, 1) := by decide +kernel
theorem dX6_shortenAll_53 : decode cX6_shortenAll 53 = .ok (.iload 5, 2) := by decide +kernel
theorem dX6_shortenAll_55 : decode cX6_shortenAll 55 = .ok (.iload 4, 2) := by decide +kernel
theorem dX6_shortenAll_57 : decode cX6_shortenAll 57 = .ok (.aload_n 0, 1) := by decide +kernel
theorem dX6_shortenAll_58 : decode cX6_shortenAll 58 = .ok (.getfield 15, 3) := by decide +kernel
theorem dX6_shortenAll_61 : decode cX6_shortenAll 61 = .ok (.iload_n 3, 1) := by decide +kernel
theorem dX6_shortenAll_62 : decode cX6_shortenAll 62 = .ok (.iaload, 1) := by decide +kernel
theorem dX6_shortenAll_63 : decode cX6_shortenAll 63 = .ok (.invokevirtual 45, 3) := by decide +kernel
theorem dX6_shortenAll_66 : decode cX6_shortenAll 66 = .ok (.istore 7, 2) := by decide +kernel
theorem dX6_shortenAll_68 : decode cX6_shortenAll 68 = .ok (.iload_n 2, 1) := by decide +kernel
theorem dX6_shortenAll_69 : decode cX6_shortenAll 69 = .ok (.ifCond .ne 13, 3) := by decide +kernel
theorem dX6_shortenAll_72 : decode cX6_shortenAll 72 = .ok (.iload 6, 2) := by decide +kernel
theorem dX6_shortenAll_74 : decode cX6_shortenAll 74 = .ok (.ifCond .ne 8, 3) := by decide +kernel
theorem dX6_shortenAll_77 : decode cX6_shortenAll 77 = .ok (.iload 7, 2) := by decide +kernel
theorem dX6_shortenAll_79 : decode cX6_shortenAll 79 = .ok (.ifCond .eq 7, 3) := by decide +kernel
theorem dX6_shortenAll_82 : decode cX6_shortenAll 82 = .ok (.iconst 1, 1) := by decide +kernel
theorem dX6_shortenAll_83 : decode cX6_shortenAll 83 = .ok (.goto 4, 3) := by decide +kernel
theorem dX6_shortenAll_86 : decode cX6_shortenAll 86 = .ok (.iconst 0, 1) := by decide +kernel
theorem dX6_shortenAll_87 : decode cX6_shortenAll 87 = .ok (.istore_n 2, 1) := by decide +kernel
theorem dX6_shortenAll_88 : decode cX6_shortenAll 88 = .ok (.iinc 3 1, 3) := by decide +kernel
theorem dX6_shortenAll_91 : decode cX6_shortenAll 91 = .ok (.goto (-87), 3) := by decide +kernel
theorem dX6_shortenAll_94 : decode cX6_shortenAll 94 = .ok (.iload_n 2, 1) := by decide +kernel
theorem dX6_shortenAll_95 : decode cX6_shortenAll 95 = .ok (.ireturn, 1) := by decide +kernel
theorem dX6_measure_0 : decode cX6_measure 0 = .ok (.iconst 0, 1) := by decide +kernel
theorem dX6_measure_1 : decode cX6_measure 1 = .ok (.istore_n 3, 1) := by decide +kernel
theorem dX6_measure_2 : decode cX6_measure 2 = .ok (.iload_n 3, 1) := by decide +kernel
theorem dX6_measure_3 : decode cX6_measure 3 = .ok (.aload_n 1, 1) := by decide +kernel
theorem dX6_measure_4 : decode cX6_measure 4 = .ok (.getfield 18, 3) := by decide +kernel
theorem dX6_measure_7 : decode cX6_measure 7 = .ok (.if_icmp .ge 16, 3) := by decide +kernel
theorem dX6_measure_10 : decode cX6_measure 10 = .ok (.aload_n 0, 1) := by decide +kernel
theorem dX6_measure_11 : decode cX6_measure 11 = .ok (.getfield 9, 3) := by decide +kernel
theorem dX6_measure_14 : decode cX6_measure 14 = .ok (.iload_n 3, 1) := by decide +kernel
theorem dX6_measure_15 : decode cX6_measure 15 = .ok (.iconst (-1), 1) := by decide +kernel
theorem dX6_measure_16 : decode cX6_measure 16 = .ok (.iastore, 1) := by decide +kernel
theorem dX6_measure_17 : decode cX6_measure 17 = .ok (.iinc 3 1, 3) := by decide +kernel
theorem dX6_measure_20 : decode cX6_measure 20 = .ok (.goto (-18), 3) := by decide +kernel
theorem dX6_measure_23 : decode cX6_measure 23 = .ok (.iconst 0, 1) := by decide +kernel
theorem dX6_measure_24 : decode cX6_measure 24 = .ok (.istore_n 3, 1) := by decide +kernel
theorem dX6_measure_25 : decode cX6_measure 25 = .ok (.iload_n 3, 1) := by decide +kernel
theorem dX6_measure_26 : decode cX6_measure 26 = .ok (.aload_n 1, 1) := by decide +kernel
theorem dX6_measure_27 : decode cX6_measure 27 = .ok (.getfield 24, 3) := by decide +kernel
theorem dX6_measure_30 : decode cX6_measure 30 = .ok (.if_icmp .ge 20, 3) := by decide +kernel
theorem dX6_measure_33 : decode cX6_measure 33 = .ok (.aload_n 0, 1) := by decide +kernel
theorem dX6_measure_34 : decode cX6_measure 34 = .ok (.getfield 15, 3) := by decide +kernel
theorem dX6_measure_37 : decode cX6_measure 37 = .ok (.iload_n 3, 1) := by decide +kernel
theorem dX6_measure_38 : decode cX6_measure 38 = .ok (.aload_n 1, 1) := by decide +kernel
theorem dX6_measure_39 : decode cX6_measure 39 = .ok (.iload_n 3, 1) := by decide +kernel
theorem dX6_measure_40 : decode cX6_measure 40 = .ok (.invokevirtual 27, 3) := by decide +kernel
theorem dX6_measure_43 : decode cX6_measure 43 = .ok (.iastore, 1) := by decide +kernel
theorem dX6_measure_44 : decode cX6_measure 44 = .ok (.iinc 3 1, 3) := by decide +kernel
theorem dX6_measure_47 : decode cX6_measure 47 = .ok (.goto (-22), 3) := by decide +kernel
theorem dX6_measure_50 : decode cX6_measure 50 = .ok (.aload_n 0, 1) := by decide +kernel
theorem dX6_measure_51 : decode cX6_measure 51 = .ok (.getfield 9, 3) := by decide +kernel
theorem dX6_measure_54 : decode cX6_measure 54 = .ok (.iload_n 2, 1) := by decide +kernel
theorem dX6_measure_55 : decode cX6_measure 55 = .ok (.iconst 0, 1) := by decide +kernel
theorem dX6_measure_56 : decode cX6_measure 56 = .ok (.iastore, 1) := by decide +kernel
theorem dX6_measure_57 : decode cX6_measure 57 = .ok (.iconst 1, 1) := by decide +kernel
theorem dX6_measure_58 : decode cX6_measure 58 = .ok (.istore_n 3, 1) := by decide +kernel
theorem dX6_measure_59 : decode cX6_measure 59 = .ok (.iconst 0, 1) := by decide +kernel
theorem dX6_measure_60 : decode cX6_measure 60 = .ok (.istore 4, 2) := by decide +kernel
theorem dX6_measure_62 : decode cX6_measure 62 = .ok (.iload 4, 2) := by decide +kernel
theorem dX6_measure_64 : decode cX6_measure 64 = .ok (.aload_n 1, 1) := by decide +kernel
theorem dX6_measure_65 : decode cX6_measure 65 = .ok (.getfield 18, 3) := by decide +kernel
theorem dX6_measure_68 : decode cX6_measure 68 = .ok (.if_icmp .ge 19, 3) := by decide +kernel
theorem dX6_measure_71 : decode cX6_measure 71 = .ok (.iload_n 3, 1) := by decide +kernel
theorem dX6_measure_72 : decode cX6_measure 72 = .ok (.ifCond .eq 15, 3) := by decide +kernel
theorem dX6_measure_75 : decode cX6_measure 75 = .ok (.aload_n 0, 1) := by decide +kernel
theorem dX6_measure_76 : decode cX6_measure 76 = .ok (.aload_n 1, 1) := by decide +kernel
theorem dX6_measure_77 : decode cX6_measure 77 = .ok (.invokevirtual 31, 3) := by decide +kernel
theorem dX6_measure_80 : decode cX6_measure 80 = .ok (.istore_n 3, 1) := by decide +kernel
theorem dX6_measure_81 : decode cX6_measure 81 = .ok (.iinc 4 1, 3) := by decide +kernel
theorem dX6_measure_84 : decode cX6_measure 84 = .ok (.goto (-22), 3) := by decide +kernel
theorem dX6_measure_87 : decode cX6_measure 87 = .ok (.return_, 1) := by decide +kernel
theorem dX6_lineBack_0 : decode cX6_lineBack 0 = .ok (.iconst 0, 1) := by decide +kernel
theorem dX6_lineBack_1 : decode cX6_lineBack 1 = .ok (.istore_n 3, 1) := by decide +kernel
theorem dX6_lineBack_2 : decode cX6_lineBack 2 = .ok (.iload_n 3, 1) := by decide +kernel
theorem dX6_lineBack_3 : decode cX6_lineBack 3 = .ok (.aload_n 1, 1) := by decide +kernel
theorem dX6_lineBack_4 : decode cX6_lineBack 4 = .ok (.getfield 24, 3) := by decide +kernel
theorem dX6_lineBack_7 : decode cX6_lineBack 7 = .ok (.if_icmp .ge 63, 3) := by decide +kernel
theorem dX6_lineBack_10 : decode cX6_lineBack 10 = .ok (.aload_n 1, 1) := by decide +kernel
theorem dX6_lineBack_11 : decode cX6_lineBack 11 = .ok (.aload_n 1, 1) := by decide +kernel
theorem dX6_lineBack_12 : decode cX6_lineBack 12 = .ok (.getfield 61, 3) := by decide +kernel
theorem dX6_lineBack_15 : decode cX6_lineBack 15 = .ok (.iload_n 3, 1) := by decide +kernel
theorem dX6_lineBack_16 : decode cX6_lineBack 16 = .ok (.iload_n 2, 1) := by decide +kernel
theorem dX6_lineBack_17 : decode cX6_lineBack 17 = .ok (.invokevirtual 64, 3) := by decide +kernel
theorem dX6_lineBack_20 : decode cX6_lineBack 20 = .ok (.istore 4, 2) := by decide +kernel
theorem dX6_lineBack_22 : decode cX6_lineBack 22 = .ok (.iload 4, 2) := by decide +kernel
theorem dX6_lineBack_24 : decode cX6_lineBack 24 = .ok (.iconst (-1), 1) := by decide +kernel
theorem dX6_lineBack_25 : decode cX6_lineBack 25 = .ok (.if_icmp .eq 39, 3) := by decide +kernel
theorem dX6_lineBack_28 : decode cX6_lineBack 28 = .ok (.aload_n 0, 1) := by decide +kernel
theorem dX6_lineBack_29 : decode cX6_lineBack 29 = .ok (.getfield 9, 3) := by decide +kernel
theorem dX6_lineBack_32 : decode cX6_lineBack 32 = .ok (.iload 4, 2) := by decide +kernel
theorem dX6_lineBack_34 : decode cX6_lineBack 34 = .ok (.iaload, 1) := by decide +kernel
theorem dX6_lineBack_35 : decode cX6_lineBack 35 = .ok (.iconst (-1), 1) := by decide +kernel
theorem dX6_lineBack_36 : decode cX6_lineBack 36 = .ok (.if_icmp .eq 28, 3) := by decide +kernel
theorem dX6_lineBack_39 : decode cX6_lineBack 39 = .ok (.aload_n 0, 1) := by decide +kernel
theorem dX6_lineBack_40 : decode cX6_lineBack 40 = .ok (.getfield 9, 3) := by decide +kernel
theorem dX6_lineBack_43 : decode cX6_lineBack 43 = .ok (.iload 4, 2) := by decide +kernel
theorem dX6_lineBack_45 : decode cX6_lineBack 45 = .ok (.iaload, 1) := by decide +kernel
theorem dX6_lineBack_46 : decode cX6_lineBack 46 = .ok (.aload_n 0, 1) := by decide +kernel
theorem dX6_lineBack_47 : decode cX6_lineBack 47 = .ok (.getfield 9, 3) := by decide +kernel
theorem dX6_lineBack_50 : decode cX6_lineBack 50 = .ok (.iload_n 2, 1) := by decide +kernel
theorem dX6_lineBack_51 : decode cX6_lineBack 51 = .ok (.iaload, 1) := by decide +kernel
theorem dX6_lineBack_52 : decode cX6_lineBack 52 = .ok (.aload_n 0, 1) := by decide +kernel
theorem dX6_lineBack_53 : decode cX6_lineBack 53 = .ok (.getfield 15, 3) := by decide +kernel
theorem dX6_lineBack_56 : decode cX6_lineBack 56 = .ok (.iload_n 3, 1) := by decide +kernel
theorem dX6_lineBack_57 : decode cX6_lineBack 57 = .ok (.iaload, 1) := by decide +kernel
theorem dX6_lineBack_58 : decode cX6_lineBack 58 = .ok (.isub, 1) := by decide +kernel
theorem dX6_lineBack_59 : decode cX6_lineBack 59 = .ok (.if_icmp .ne 5, 3) := by decide +kernel
theorem dX6_lineBack_62 : decode cX6_lineBack 62 = .ok (.iload_n 3, 1) := by decide +kernel
theorem dX6_lineBack_63 : decode cX6_lineBack 63 = .ok (.ireturn, 1) := by decide +kernel
theorem dX6_lineBack_64 : decode cX6_lineBack 64 = .ok (.iinc 3 1, 3) := by decide +kernel
theorem dX6_lineBack_67 : decode cX6_lineBack 67 = .ok (.goto (-65), 3) := by decide +kernel
theorem dX6_lineBack_70 : decode cX6_lineBack 70 = .ok (.iconst (-1), 1) := by decide +kernel
theorem dX6_lineBack_71 : decode cX6_lineBack 71 = .ok (.ireturn, 1) := by decide +kernel
theorem dX6_trace_0 : decode cX6_trace 0 = .ok (.aload_n 0, 1) := by decide +kernel
theorem dX6_trace_1 : decode cX6_trace 1 = .ok (.aload_n 1, 1) := by decide +kernel
theorem dX6_trace_2 : decode cX6_trace 2 = .ok (.iload_n 2, 1) := by decide +kernel
theorem dX6_trace_3 : decode cX6_trace 3 = .ok (.invokevirtual 49, 3) := by decide +kernel
theorem dX6_trace_6 : decode cX6_trace 6 = .ok (.aload_n 0, 1) := by decide +kernel
theorem dX6_trace_7 : decode cX6_trace 7 = .ok (.iconst 0, 1) := by decide +kernel
theorem dX6_trace_8 : decode cX6_trace 8 = .ok (.putfield 53, 3) := by decide +kernel
theorem dX6_trace_11 : decode cX6_trace 11 = .ok (.aload_n 0, 1) := by decide +kernel
theorem dX6_trace_12 : decode cX6_trace 12 = .ok (.iconst 0, 1) := by decide +kernel
theorem dX6_trace_13 : decode cX6_trace 13 = .ok (.putfield 54, 3) := by decide +kernel
theorem dX6_trace_16 : decode cX6_trace 16 = .ok (.aload_n 0, 1) := by decide +kernel
theorem dX6_trace_17 : decode cX6_trace 17 = .ok (.getfield 9, 3) := by decide +kernel
theorem dX6_trace_20 : decode cX6_trace 20 = .ok (.iload_n 3, 1) := by decide +kernel
theorem dX6_trace_21 : decode cX6_trace 21 = .ok (.iaload, 1) := by decide +kernel
theorem dX6_trace_22 : decode cX6_trace 22 = .ok (.iconst (-1), 1) := by decide +kernel
theorem dX6_trace_23 : decode cX6_trace 23 = .ok (.if_icmp .ne 4, 3) := by decide +kernel
theorem dX6_trace_26 : decode cX6_trace 26 = .ok (.return_, 1) := by decide +kernel
theorem dX6_trace_27 : decode cX6_trace 27 = .ok (.iload_n 3, 1) := by decide +kernel
theorem dX6_trace_28 : decode cX6_trace 28 = .ok (.istore 4, 2) := by decide +kernel
theorem dX6_trace_30 : decode cX6_trace 30 = .ok (.iconst 0, 1) := by decide +kernel
theorem dX6_trace_31 : decode cX6_trace 31 = .ok (.istore 5, 2) := by decide +kernel
theorem dX6_trace_33 : decode cX6_trace 33 = .ok (.iload 5, 2) := by decide +kernel
theorem dX6_trace_35 : decode cX6_trace 35 = .ok (.aload_n 1, 1) := by decide +kernel
theorem dX6_trace_36 : decode cX6_trace 36 = .ok (.getfield 18, 3) := by decide +kernel
theorem dX6_trace_39 : decode cX6_trace 39 = .ok (.if_icmp .ge 75, 3) := by decide +kernel
theorem dX6_trace_42 : decode cX6_trace 42 = .ok (.iload 4, 2) := by decide +kernel
theorem dX6_trace_44 : decode cX6_trace 44 = .ok (.iload_n 2, 1) := by decide +kernel
theorem dX6_trace_45 : decode cX6_trace 45 = .ok (.if_icmp .eq 69, 3) := by decide +kernel
theorem dX6_trace_48 : decode cX6_trace 48 = .ok (.aload_n 0, 1) := by decide +kernel
theorem dX6_trace_49 : decode cX6_trace 49 = .ok (.aload_n 1, 1) := by decide +kernel
theorem dX6_trace_50 : decode cX6_trace 50 = .ok (.iload 4, 2) := by decide +kernel
theorem dX6_trace_52 : decode cX6_trace 52 = .ok (.invokevirtual 57, 3) := by decide +kernel
theorem dX6_trace_55 : decode cX6_trace 55 = .ok (.istore 6, 2) := by decide +kernel
theorem dX6_trace_57 : decode cX6_trace 57 = .ok (.iload 6, 2) := by decide +kernel
theorem dX6_trace_59 : decode cX6_trace 59 = .ok (.iconst (-1), 1) := by decide +kernel
theorem dX6_trace_60 : decode cX6_trace 60 = .ok (.if_icmp .ne 4, 3) := by decide +kernel
theorem dX6_trace_63 : decode cX6_trace 63 = .ok (.return_, 1) := by decide +kernel
theorem dX6_trace_64 : decode cX6_trace 64 = .ok (.aload_n 1, 1) := by decide +kernel
theorem dX6_trace_65 : decode cX6_trace 65 = .ok (.aload_n 1, 1) := by decide +kernel
theorem dX6_trace_66 : decode cX6_trace 66 = .ok (.getfield 61, 3) := by decide +kernel
theorem dX6_trace_69 : decode cX6_trace 69 = .ok (.iload 6, 2) := by decide +kernel
theorem dX6_trace_71 : decode cX6_trace 71 = .ok (.iload 4, 2) := by decide +kernel
theorem dX6_trace_73 : decode cX6_trace 73 = .ok (.invokevirtual 64, 3) := by decide +kernel
theorem dX6_trace_76 : decode cX6_trace 76 = .ok (.istore 4, 2) := by decide +kernel
theorem dX6_trace_78 : decode cX6_trace 78 = .ok (.aload_n 0, 1) := by decide +kernel
theorem dX6_trace_79 : decode cX6_trace 79 = .ok (.dup, 1) := by decide +kernel
theorem dX6_trace_80 : decode cX6_trace 80 = .ok (.getfield 53, 3) := by decide +kernel
theorem dX6_trace_83 : decode cX6_trace 83 = .ok (.iconst 1, 1) := by decide +kernel
theorem dX6_trace_84 : decode cX6_trace 84 = .ok (.iload 6, 2) := by decide +kernel
theorem dX6_trace_86 : decode cX6_trace 86 = .ok (.ishl, 1) := by decide +kernel
theorem dX6_trace_87 : decode cX6_trace 87 = .ok (.ior, 1) := by decide +kernel
theorem dX6_trace_88 : decode cX6_trace 88 = .ok (.putfield 53, 3) := by decide +kernel
theorem dX6_trace_91 : decode cX6_trace 91 = .ok (.aload_n 0, 1) := by decide +kernel
theorem dX6_trace_92 : decode cX6_trace 92 = .ok (.dup, 1) := by decide +kernel
theorem dX6_trace_93 : decode cX6_trace 93 = .ok (.getfield 54, 3) := by decide +kernel
theorem dX6_trace_96 : decode cX6_trace 96 = .ok (.aload_n 1, 1) := by decide +kernel
theorem dX6_trace_97 : decode cX6_trace 97 = .ok (.iload 6, 2) := by decide +kernel
theorem dX6_trace_99 : decode cX6_trace 99 = .ok (.iload 4, 2) := by decide +kernel
theorem dX6_trace_101 : decode cX6_trace 101 = .ok (.invokevirtual 68, 3) := by decide +kernel
theorem dX6_trace_104 : decode cX6_trace 104 = .ok (.iadd, 1) := by decide +kernel
theorem dX6_trace_105 : decode cX6_trace 105 = .ok (.putfield 54, 3) := by decide +kernel
theorem dX6_trace_108 : decode cX6_trace 108 = .ok (.iinc 5 1, 3) := by decide +kernel
theorem dX6_trace_111 : decode cX6_trace 111 = .ok (.goto (-78), 3) := by decide +kernel
theorem dX6_trace_114 : decode cX6_trace 114 = .ok (.return_, 1) := by decide +kernel
theorem dX0_carry_0 : decode cX0_carry 0 = .ok (.iconst 0, 1) := by decide +kernel
theorem dX0_carry_1 : decode cX0_carry 1 = .ok (.istore_n 2, 1) := by decide +kernel
theorem dX0_carry_2 : decode cX0_carry 2 = .ok (.iconst 0, 1) := by decide +kernel
theorem dX0_carry_3 : decode cX0_carry 3 = .ok (.istore_n 3, 1) := by decide +kernel
theorem dX0_carry_4 : decode cX0_carry 4 = .ok (.iload_n 3, 1) := by decide +kernel
theorem dX0_carry_5 : decode cX0_carry 5 = .ok (.aload_n 1, 1) := by decide +kernel
theorem dX0_carry_6 : decode cX0_carry 6 = .ok (.getfield 34, 3) := by decide +kernel
theorem dX0_carry_9 : decode cX0_carry 9 = .ok (.if_icmp .ge 55, 3) := by decide +kernel
theorem dX0_carry_12 : decode cX0_carry 12 = .ok (.aload_n 0, 1) := by decide +kernel
theorem dX0_carry_13 : decode cX0_carry 13 = .ok (.getfield 9, 3) := by decide +kernel
theorem dX0_carry_16 : decode cX0_carry 16 = .ok (.iload_n 3, 1) := by decide +kernel
theorem dX0_carry_17 : decode cX0_carry 17 = .ok (.ldc2_w 40, 3) := by decide +kernel
theorem dX0_carry_20 : decode cX0_carry 20 = .ok (.lastore, 1) := by decide +kernel
theorem dX0_carry_21 : decode cX0_carry 21 = .ok (.aload_n 1, 1) := by decide +kernel
theorem dX0_carry_22 : decode cX0_carry 22 = .ok (.getfield 42, 3) := by decide +kernel
theorem dX0_carry_25 : decode cX0_carry 25 = .ok (.iload_n 3, 1) := by decide +kernel
theorem dX0_carry_26 : decode cX0_carry 26 = .ok (.iaload, 1) := by decide +kernel
theorem dX0_carry_27 : decode cX0_carry 27 = .ok (.iconst (-1), 1) := by decide +kernel
theorem dX0_carry_28 : decode cX0_carry 28 = .ok (.if_icmp .eq 30, 3) := by decide +kernel
theorem dX0_carry_31 : decode cX0_carry 31 = .ok (.aload_n 0, 1) := by decide +kernel
theorem dX0_carry_32 : decode cX0_carry 32 = .ok (.getfield 9, 3) := by decide +kernel
theorem dX0_carry_35 : decode cX0_carry 35 = .ok (.iload_n 3, 1) := by decide +kernel
theorem dX0_carry_36 : decode cX0_carry 36 = .ok (.ldc2_w 45, 3) := by decide +kernel
theorem dX0_carry_39 : decode cX0_carry 39 = .ok (.aload_n 1, 1) := by decide +kernel
theorem dX0_carry_40 : decode cX0_carry 40 = .ok (.getfield 42, 3) := by decide +kernel
theorem dX0_carry_43 : decode cX0_carry 43 = .ok (.iload_n 3, 1) := by decide +kernel
theorem dX0_carry_44 : decode cX0_carry 44 = .ok (.iaload, 1) := by decide +kernel
theorem dX0_carry_45 : decode cX0_carry 45 = .ok (.i2l, 1) := by decide +kernel
theorem dX0_carry_46 : decode cX0_carry 46 = .ok (.lmul, 1) := by decide +kernel
theorem dX0_carry_47 : decode cX0_carry 47 = .ok (.lastore, 1) := by decide +kernel
theorem dX0_carry_48 : decode cX0_carry 48 = .ok (.aload_n 0, 1) := by decide +kernel
theorem dX0_carry_49 : decode cX0_carry 49 = .ok (.getfield 18, 3) := by decide +kernel
theorem dX0_carry_52 : decode cX0_carry 52 = .ok (.iload_n 2, 1) := by decide +kernel
theorem dX0_carry_53 : decode cX0_carry 53 = .ok (.iload_n 3, 1) := by decide +kernel
theorem dX0_carry_54 : decode cX0_carry 54 = .ok (.iastore, 1) := by decide +kernel
theorem dX0_carry_55 : decode cX0_carry 55 = .ok (.iinc 2 1, 3) := by decide +kernel
theorem dX0_carry_58 : decode cX0_carry 58 = .ok (.iinc 3 1, 3) := by decide +kernel
theorem dX0_carry_61 : decode cX0_carry 61 = .ok (.goto (-57), 3) := by decide +kernel
theorem dX0_carry_64 : decode cX0_carry 64 = .ok (.iconst 0, 1) := by decide +kernel
theorem dX0_carry_65 : decode cX0_carry 65 = .ok (.istore_n 3, 1) := by decide +kernel
theorem dX0_carry_66 : decode cX0_carry 66 = .ok (.iload_n 3, 1) := by decide +kernel
theorem dX0_carry_67 : decode cX0_carry 67 = .ok (.aload_n 1, 1) := by decide +kernel
theorem dX0_carry_68 : decode cX0_carry 68 = .ok (.getfield 34, 3) := by decide +kernel
theorem dX0_carry_71 : decode cX0_carry 71 = .ok (.if_icmp .ge 115, 3) := by decide +kernel
theorem dX0_carry_74 : decode cX0_carry 74 = .ok (.iload_n 3, 1) := by decide +kernel
theorem dX0_carry_75 : decode cX0_carry 75 = .ok (.iload_n 2, 1) := by decide +kernel
theorem dX0_carry_76 : decode cX0_carry 76 = .ok (.if_icmp .ge 110, 3) := by decide +kernel
theorem dX0_carry_79 : decode cX0_carry 79 = .ok (.aload_n 0, 1) := by decide +kernel
theorem dX0_carry_80 : decode cX0_carry 80 = .ok (.getfield 18, 3) := by decide +kernel
theorem dX0_carry_83 : decode cX0_carry 83 = .ok (.iload_n 3, 1) := by decide +kernel
theorem dX0_carry_84 : decode cX0_carry 84 = .ok (.iaload, 1) := by decide +kernel
theorem dX0_carry_85 : decode cX0_carry 85 = .ok (.istore 4, 2) := by decide +kernel
theorem dX0_carry_87 : decode cX0_carry 87 = .ok (.iconst 0, 1) := by decide +kernel
theorem dX0_carry_88 : decode cX0_carry 88 = .ok (.istore 5, 2) := by decide +kernel
theorem dX0_carry_90 : decode cX0_carry 90 = .ok (.iload 5, 2) := by decide +kernel
theorem dX0_carry_92 : decode cX0_carry 92 = .ok (.aload_n 1, 1) := by decide +kernel
theorem dX0_carry_93 : decode cX0_carry 93 = .ok (.getfield 47, 3) := by decide +kernel
theorem dX0_carry_96 : decode cX0_carry 96 = .ok (.if_icmp .ge 84, 3) := by decide +kernel
theorem dX0_carry_99 : decode cX0_carry 99 = .ok (.aload_n 1, 1) := by decide +kernel
theorem dX0_carry_100 : decode cX0_carry 100 = .ok (.aload_n 1, 1) := by decide +kernel
theorem dX0_carry_101 : decode cX0_carry 101 = .ok (.getfield 50, 3) := by decide +kernel
theorem dX0_carry_104 : decode cX0_carry 104 = .ok (.iload 5, 2) := by decide +kernel
theorem dX0_carry_106 : decode cX0_carry 106 = .ok (.iload 4, 2) := by decide +kernel
theorem dX0_carry_108 : decode cX0_carry 108 = .ok (.invokevirtual 53, 3) := by decide +kernel
theorem dX0_carry_111 : decode cX0_carry 111 = .ok (.istore 6, 2) := by decide +kernel
theorem dX0_carry_113 : decode cX0_carry 113 = .ok (.iload 6, 2) := by decide +kernel
theorem dX0_carry_115 : decode cX0_carry 115 = .ok (.iconst (-1), 1) := by decide +kernel
theorem dX0_carry_116 : decode cX0_carry 116 = .ok (.if_icmp .eq 58, 3) := by decide +kernel
theorem dX0_carry_119 : decode cX0_carry 119 = .ok (.aload_n 0, 1) := by decide +kernel
theorem dX0_carry_120 : decode cX0_carry 120 = .ok (.getfield 9, 3) := by decide +kernel
theorem dX0_carry_123 : decode cX0_carry 123 = .ok (.iload 6, 2) := by decide +kernel
theorem dX0_carry_125 : decode cX0_carry 125 = .ok (.laload, 1) := by decide +kernel
theorem dX0_carry_126 : decode cX0_carry 126 = .ok (.ldc2_w 40, 3) := by decide +kernel
theorem dX0_carry_129 : decode cX0_carry 129 = .ok (.lcmp, 1) := by decide +kernel
theorem dX0_carry_130 : decode cX0_carry 130 = .ok (.ifCond .ne 44, 3) := by decide +kernel
theorem dX0_carry_133 : decode cX0_carry 133 = .ok (.iload_n 2, 1) := by decide +kernel
theorem dX0_carry_134 : decode cX0_carry 134 = .ok (.bipush 16, 2) := by decide +kernel
theorem dX0_carry_136 : decode cX0_carry 136 = .ok (.if_icmp .ge 38, 3) := by decide +kernel
theorem dX0_carry_139 : decode cX0_carry 139 = .ok (.aload_n 0, 1) := by decide +kernel
theorem dX0_carry_140 : decode cX0_carry 140 = .ok (.getfield 9, 3) := by decide +kernel
theorem dX0_carry_143 : decode cX0_carry 143 = .ok (.iload 6, 2) := by decide +kernel
theorem dX0_carry_145 : decode cX0_carry 145 = .ok (.aload_n 0, 1) := by decide +kernel
theorem dX0_carry_146 : decode cX0_carry 146 = .ok (.getfield 9, 3) := by decide +kernel
theorem dX0_carry_149 : decode cX0_carry 149 = .ok (.iload 4, 2) := by decide +kernel
theorem dX0_carry_151 : decode cX0_carry 151 = .ok (.laload, 1) := by decide +kernel
theorem dX0_carry_152 : decode cX0_carry 152 = .ok (.aload_n 1, 1) := by decide +kernel
theorem dX0_carry_153 : decode cX0_carry 153 = .ok (.iload 5, 2) := by decide +kernel
theorem dX0_carry_155 : decode cX0_carry 155 = .ok (.iload 4, 2) := by decide +kernel
theorem dX0_carry_157 : decode cX0_carry 157 = .ok (.invokevirtual 57, 3) := by decide +kernel
theorem dX0_carry_160 : decode cX0_carry 160 = .ok (.i2l, 1) := by decide +kernel
theorem dX0_carry_161 : decode cX0_carry 161 = .ok (.ladd, 1) := by decide +kernel
theorem dX0_carry_162 : decode cX0_carry 162 = .ok (.lastore, 1) := by decide +kernel
theorem dX0_carry_163 : decode cX0_carry 163 = .ok (.aload_n 0, 1) := by decide +kernel
theorem dX0_carry_164 : decode cX0_carry 164 = .ok (.getfield 18, 3) := by decide +kernel
theorem dX0_carry_167 : decode cX0_carry 167 = .ok (.iload_n 2, 1) := by decide +kernel
theorem dX0_carry_168 : decode cX0_carry 168 = .ok (.iload 6, 2) := by decide +kernel
theorem dX0_carry_170 : decode cX0_carry 170 = .ok (.iastore, 1) := by decide +kernel
theorem dX0_carry_171 : decode cX0_carry 171 = .ok (.iinc 2 1, 3) := by decide +kernel
theorem dX0_carry_174 : decode cX0_carry 174 = .ok (.iinc 5 1, 3) := by decide +kernel
theorem dX0_carry_177 : decode cX0_carry 177 = .ok (.goto (-87), 3) := by decide +kernel
theorem dX0_carry_180 : decode cX0_carry 180 = .ok (.iinc 3 1, 3) := by decide +kernel
theorem dX0_carry_183 : decode cX0_carry 183 = .ok (.goto (-117), 3) := by decide +kernel
theorem dX0_carry_186 : decode cX0_carry 186 = .ok (.return_, 1) := by decide +kernel
theorem dX0_gatherLines_0 : decode cX0_gatherLines 0 = .ok (.iconst 0, 1) := by decide +kernel
theorem dX0_gatherLines_1 : decode cX0_gatherLines 1 = .ok (.istore_n 2, 1) := by decide +kernel
theorem dX0_gatherLines_2 : decode cX0_gatherLines 2 = .ok (.iconst 0, 1) := by decide +kernel
theorem dX0_gatherLines_3 : decode cX0_gatherLines 3 = .ok (.istore_n 3, 1) := by decide +kernel
theorem dX0_gatherLines_4 : decode cX0_gatherLines 4 = .ok (.iload_n 3, 1) := by decide +kernel
theorem dX0_gatherLines_5 : decode cX0_gatherLines 5 = .ok (.aload_n 1, 1) := by decide +kernel
theorem dX0_gatherLines_6 : decode cX0_gatherLines 6 = .ok (.getfield 34, 3) := by decide +kernel
theorem dX0_gatherLines_9 : decode cX0_gatherLines 9 = .ok (.if_icmp .ge 90, 3) := by decide +kernel
theorem dX0_gatherLines_12 : decode cX0_gatherLines 12 = .ok (.aload_n 0, 1) := by decide +kernel
theorem dX0_gatherLines_13 : decode cX0_gatherLines 13 = .ok (.getfield 22, 3) := by decide +kernel
theorem dX0_gatherLines_16 : decode cX0_gatherLines 16 = .ok (.iload_n 3, 1) := by decide +kernel
theorem dX0_gatherLines_17 : decode cX0_gatherLines 17 = .ok (.iload_n 2, 1) := by decide +kernel
theorem dX0_gatherLines_18 : decode cX0_gatherLines 18 = .ok (.iastore, 1) := by decide +kernel
theorem dX0_gatherLines_19 : decode cX0_gatherLines 19 = .ok (.iconst 0, 1) := by decide +kernel
theorem dX0_gatherLines_20 : decode cX0_gatherLines 20 = .ok (.istore 4, 2) := by decide +kernel
theorem dX0_gatherLines_22 : decode cX0_gatherLines 22 = .ok (.iload 4, 2) := by decide +kernel
theorem dX0_gatherLines_24 : decode cX0_gatherLines 24 = .ok (.aload_n 1, 1) := by decide +kernel
theorem dX0_gatherLines_25 : decode cX0_gatherLines 25 = .ok (.getfield 47, 3) := by decide +kernel
theorem dX0_gatherLines_28 : decode cX0_gatherLines 28 = .ok (.if_icmp .ge 65, 3) := by decide +kernel
theorem dX0_gatherLines_31 : decode cX0_gatherLines 31 = .ok (.aload_n 1, 1) := by decide +kernel
theorem dX0_gatherLines_32 : decode cX0_gatherLines 32 = .ok (.aload_n 1, 1) := by decide +kernel
theorem dX0_gatherLines_33 : decode cX0_gatherLines 33 = .ok (.getfield 50, 3) := by decide +kernel
theorem dX0_gatherLines_36 : decode cX0_gatherLines 36 = .ok (.iload 4, 2) := by decide +kernel
theorem dX0_gatherLines_38 : decode cX0_gatherLines 38 = .ok (.iload_n 3, 1) := by decide +kernel
theorem dX0_gatherLines_39 : decode cX0_gatherLines 39 = .ok (.invokevirtual 53, 3) := by decide +kernel
theorem dX0_gatherLines_42 : decode cX0_gatherLines 42 = .ok (.istore 5, 2) := by decide +kernel
theorem dX0_gatherLines_44 : decode cX0_gatherLines 44 = .ok (.iload 5, 2) := by decide +kernel
theorem dX0_gatherLines_46 : decode cX0_gatherLines 46 = .ok (.iconst (-1), 1) := by decide +kernel
theorem dX0_gatherLines_47 : decode cX0_gatherLines 47 = .ok (.if_icmp .eq 40, 3) := by decide +kernel
theorem dX0_gatherLines_50 : decode cX0_gatherLines 50 = .ok (.aload_n 0, 1) := by decide +kernel
theorem dX0_gatherLines_51 : decode cX0_gatherLines 51 = .ok (.getfield 25, 3) := by decide +kernel
theorem dX0_gatherLines_54 : decode cX0_gatherLines 54 = .ok (.iload_n 2, 1) := by decide +kernel
theorem dX0_gatherLines_55 : decode cX0_gatherLines 55 = .ok (.iload 5, 2) := by decide +kernel
theorem dX0_gatherLines_57 : decode cX0_gatherLines 57 = .ok (.iastore, 1) := by decide +kernel
theorem dX0_gatherLines_58 : decode cX0_gatherLines 58 = .ok (.aload_n 0, 1) := by decide +kernel
theorem dX0_gatherLines_59 : decode cX0_gatherLines 59 = .ok (.getfield 28, 3) := by decide +kernel
theorem dX0_gatherLines_62 : decode cX0_gatherLines 62 = .ok (.iload_n 2, 1) := by decide +kernel
theorem dX0_gatherLines_63 : decode cX0_gatherLines 63 = .ok (.aload_n 1, 1) := by decide +kernel
theorem dX0_gatherLines_64 : decode cX0_gatherLines 64 = .ok (.iload 4, 2) := by decide +kernel
theorem dX0_gatherLines_66 : decode cX0_gatherLines 66 = .ok (.iload 5, 2) := by decide +kernel
theorem dX0_gatherLines_68 : decode cX0_gatherLines 68 = .ok (.invokevirtual 57, 3) := by decide +kernel
theorem dX0_gatherLines_71 : decode cX0_gatherLines 71 = .ok (.iastore, 1) := by decide +kernel
theorem dX0_gatherLines_72 : decode cX0_gatherLines 72 = .ok (.aload_n 0, 1) := by decide +kernel
theorem dX0_gatherLines_73 : decode cX0_gatherLines 73 = .ok (.getfield 31, 3) := by decide +kernel
theorem dX0_gatherLines_76 : decode cX0_gatherLines 76 = .ok (.iload_n 2, 1) := by decide +kernel
theorem dX0_gatherLines_77 : decode cX0_gatherLines 77 = .ok (.aload_n 1, 1) := by decide +kernel
theorem dX0_gatherLines_78 : decode cX0_gatherLines 78 = .ok (.iload 4, 2) := by decide +kernel
theorem dX0_gatherLines_80 : decode cX0_gatherLines 80 = .ok (.invokevirtual 82, 3) := by decide +kernel
theorem dX0_gatherLines_83 : decode cX0_gatherLines 83 = .ok (.iastore, 1) := by decide +kernel
theorem dX0_gatherLines_84 : decode cX0_gatherLines 84 = .ok (.iinc 2 1, 3) := by decide +kernel
theorem dX0_gatherLines_87 : decode cX0_gatherLines 87 = .ok (.iinc 4 1, 3) := by decide +kernel
theorem dX0_gatherLines_90 : decode cX0_gatherLines 90 = .ok (.goto (-68), 3) := by decide +kernel
theorem dX0_gatherLines_93 : decode cX0_gatherLines 93 = .ok (.iinc 3 1, 3) := by decide +kernel
theorem dX0_gatherLines_96 : decode cX0_gatherLines 96 = .ok (.goto (-92), 3) := by decide +kernel
theorem dX0_gatherLines_99 : decode cX0_gatherLines 99 = .ok (.aload_n 0, 1) := by decide +kernel
theorem dX0_gatherLines_100 : decode cX0_gatherLines 100 = .ok (.getfield 22, 3) := by decide +kernel
theorem dX0_gatherLines_103 : decode cX0_gatherLines 103 = .ok (.aload_n 1, 1) := by decide +kernel
theorem dX0_gatherLines_104 : decode cX0_gatherLines 104 = .ok (.getfield 34, 3) := by decide +kernel
theorem dX0_gatherLines_107 : decode cX0_gatherLines 107 = .ok (.iload_n 2, 1) := by decide +kernel
theorem dX0_gatherLines_108 : decode cX0_gatherLines 108 = .ok (.iastore, 1) := by decide +kernel
theorem dX0_gatherLines_109 : decode cX0_gatherLines 109 = .ok (.return_, 1) := by decide +kernel
theorem dX0_weightedMean_0 : decode cX0_weightedMean 0 = .ok (.lconst 0, 1) := by decide +kernel
theorem dX0_weightedMean_1 : decode cX0_weightedMean 1 = .ok (.lstore_n 2, 1) := by decide +kernel
theorem dX0_weightedMean_2 : decode cX0_weightedMean 2 = .ok (.lconst 0, 1) := by decide +kernel
theorem dX0_weightedMean_3 : decode cX0_weightedMean 3 = .ok (.lstore 4, 2) := by decide +kernel
theorem dX0_weightedMean_5 : decode cX0_weightedMean 5 = .ok (.aload_n 0, 1) := by decide +kernel
theorem dX0_weightedMean_6 : decode cX0_weightedMean 6 = .ok (.getfield 22, 3) := by decide +kernel
theorem dX0_weightedMean_9 : decode cX0_weightedMean 9 = .ok (.iload_n 1, 1) := by decide +kernel
theorem dX0_weightedMean_10 : decode cX0_weightedMean 10 = .ok (.iaload, 1) := by decide +kernel
theorem dX0_weightedMean_11 : decode cX0_weightedMean 11 = .ok (.istore 6, 2) := by decide +kernel
theorem dX0_weightedMean_13 : decode cX0_weightedMean 13 = .ok (.iload 6, 2) := by decide +kernel
theorem dX0_weightedMean_15 : decode cX0_weightedMean 15 = .ok (.aload_n 0, 1) := by decide +kernel
theorem dX0_weightedMean_16 : decode cX0_weightedMean 16 = .ok (.getfield 22, 3) := by decide +kernel
theorem dX0_weightedMean_19 : decode cX0_weightedMean 19 = .ok (.iload_n 1, 1) := by decide +kernel
theorem dX0_weightedMean_20 : decode cX0_weightedMean 20 = .ok (.iconst 1, 1) := by decide +kernel
theorem dX0_weightedMean_21 : decode cX0_weightedMean 21 = .ok (.iadd, 1) := by decide +kernel
theorem dX0_weightedMean_22 : decode cX0_weightedMean 22 = .ok (.iaload, 1) := by decide +kernel
theorem dX0_weightedMean_23 : decode cX0_weightedMean 23 = .ok (.if_icmp .ge 55, 3) := by decide +kernel
theorem dX0_weightedMean_26 : decode cX0_weightedMean 26 = .ok (.lload_n 2, 1) := by decide +kernel
theorem dX0_weightedMean_27 : decode cX0_weightedMean 27 = .ok (.aload_n 0, 1) := by decide +kernel
theorem dX0_weightedMean_28 : decode cX0_weightedMean 28 = .ok (.getfield 31, 3) := by decide +kernel
theorem dX0_weightedMean_31 : decode cX0_weightedMean 31 = .ok (.iload 6, 2) := by decide +kernel
theorem dX0_weightedMean_33 : decode cX0_weightedMean 33 = .ok (.iaload, 1) := by decide +kernel
theorem dX0_weightedMean_34 : decode cX0_weightedMean 34 = .ok (.i2l, 1) := by decide +kernel
theorem dX0_weightedMean_35 : decode cX0_weightedMean 35 = .ok (.aload_n 0, 1) := by decide +kernel
theorem dX0_weightedMean_36 : decode cX0_weightedMean 36 = .ok (.getfield 15, 3) := by decide +kernel
theorem dX0_weightedMean_39 : decode cX0_weightedMean 39 = .ok (.aload_n 0, 1) := by decide +kernel
theorem dX0_weightedMean_40 : decode cX0_weightedMean 40 = .ok (.getfield 25, 3) := by decide +kernel
theorem dX0_weightedMean_43 : decode cX0_weightedMean 43 = .ok (.iload 6, 2) := by decide +kernel
theorem dX0_weightedMean_45 : decode cX0_weightedMean 45 = .ok (.iaload, 1) := by decide +kernel
theorem dX0_weightedMean_46 : decode cX0_weightedMean 46 = .ok (.laload, 1) := by decide +kernel
theorem dX0_weightedMean_47 : decode cX0_weightedMean 47 = .ok (.aload_n 0, 1) := by decide +kernel
theorem dX0_weightedMean_48 : decode cX0_weightedMean 48 = .ok (.getfield 28, 3) := by decide +kernel
theorem dX0_weightedMean_51 : decode cX0_weightedMean 51 = .ok (.iload 6, 2) := by decide +kernel
theorem dX0_weightedMean_53 : decode cX0_weightedMean 53 = .ok (.iaload, 1) := by decide +kernel
theorem dX0_weightedMean_54 : decode cX0_weightedMean 54 = .ok (.i2l, 1) := by decide +kernel
theorem dX0_weightedMean_55 : decode cX0_weightedMean 55 = .ok (.ladd, 1) := by decide +kernel
theorem dX0_weightedMean_56 : decode cX0_weightedMean 56 = .ok (.lmul, 1) := by decide +kernel
theorem dX0_weightedMean_57 : decode cX0_weightedMean 57 = .ok (.ladd, 1) := by decide +kernel
theorem dX0_weightedMean_58 : decode cX0_weightedMean 58 = .ok (.lstore_n 2, 1) := by decide +kernel
theorem dX0_weightedMean_59 : decode cX0_weightedMean 59 = .ok (.lload 4, 2) := by decide +kernel
theorem dX0_weightedMean_61 : decode cX0_weightedMean 61 = .ok (.aload_n 0, 1) := by decide +kernel
theorem dX0_weightedMean_62 : decode cX0_weightedMean 62 = .ok (.getfield 31, 3) := by decide +kernel
theorem dX0_weightedMean_65 : decode cX0_weightedMean 65 = .ok (.iload 6, 2) := by decide +kernel
theorem dX0_weightedMean_67 : decode cX0_weightedMean 67 = .ok (.iaload, 1) := by decide +kernel
theorem dX0_weightedMean_68 : decode cX0_weightedMean 68 = .ok (.i2l, 1) := by decide +kernel
theorem dX0_weightedMean_69 : decode cX0_weightedMean 69 = .ok (.ladd, 1) := by decide +kernel
theorem dX0_weightedMean_70 : decode cX0_weightedMean 70 = .ok (.lstore 4, 2) := by decide +kernel
theorem dX0_weightedMean_72 : decode cX0_weightedMean 72 = .ok (.iinc 6 1, 3) := by decide +kernel
theorem dX0_weightedMean_75 : decode cX0_weightedMean 75 = .ok (.goto (-62), 3) := by decide +kernel
theorem dX0_weightedMean_78 : decode cX0_weightedMean 78 = .ok (.lload 4, 2) := by decide +kernel
theorem dX0_weightedMean_80 : decode cX0_weightedMean 80 = .ok (.lconst 0, 1) := by decide +kernel
theorem dX0_weightedMean_81 : decode cX0_weightedMean 81 = .ok (.lcmp, 1) := by decide +kernel
theorem dX0_weightedMean_82 : decode cX0_weightedMean 82 = .ok (.ifCond .le 23, 3) := by decide +kernel
theorem dX0_weightedMean_85 : decode cX0_weightedMean 85 = .ok (.ldc2_w 90, 3) := by decide +kernel
theorem dX0_weightedMean_88 : decode cX0_weightedMean 88 = .ok (.lload_n 2, 1) := by decide +kernel
theorem dX0_weightedMean_89 : decode cX0_weightedMean 89 = .ok (.lmul, 1) := by decide +kernel
theorem dX0_weightedMean_90 : decode cX0_weightedMean 90 = .ok (.lload 4, 2) := by decide +kernel
theorem dX0_weightedMean_92 : decode cX0_weightedMean 92 = .ok (.ladd, 1) := by decide +kernel
theorem dX0_weightedMean_93 : decode cX0_weightedMean 93 = .ok (.ldc2_w 90, 3) := by decide +kernel
theorem dX0_weightedMean_96 : decode cX0_weightedMean 96 = .ok (.lload 4, 2) := by decide +kernel
theorem dX0_weightedMean_98 : decode cX0_weightedMean 98 = .ok (.lmul, 1) := by decide +kernel
theorem dX0_weightedMean_99 : decode cX0_weightedMean 99 = .ok (.invokestatic 92, 3) := by decide +kernel
theorem dX0_weightedMean_102 : decode cX0_weightedMean 102 = .ok (.goto 9, 3) := by decide +kernel
theorem dX0_weightedMean_105 : decode cX0_weightedMean 105 = .ok (.aload_n 0, 1) := by decide +kernel
theorem dX0_weightedMean_106 : decode cX0_weightedMean 106 = .ok (.getfield 15, 3) := by decide +kernel
theorem dX0_weightedMean_109 : decode cX0_weightedMean 109 = .ok (.iload_n 1, 1) := by decide +kernel
theorem dX0_weightedMean_110 : decode cX0_weightedMean 110 = .ok (.laload, 1) := by decide +kernel
theorem dX0_weightedMean_111 : decode cX0_weightedMean 111 = .ok (.lreturn, 1) := by decide +kernel
theorem dX0_settleOnce_0 : decode cX0_settleOnce 0 = .ok (.iconst 0, 1) := by decide +kernel
theorem dX0_settleOnce_1 : decode cX0_settleOnce 1 = .ok (.istore_n 2, 1) := by decide +kernel
theorem dX0_settleOnce_2 : decode cX0_settleOnce 2 = .ok (.iconst 0, 1) := by decide +kernel
theorem dX0_settleOnce_3 : decode cX0_settleOnce 3 = .ok (.istore_n 3, 1) := by decide +kernel
theorem dX0_settleOnce_4 : decode cX0_settleOnce 4 = .ok (.iload_n 3, 1) := by decide +kernel
theorem dX0_settleOnce_5 : decode cX0_settleOnce 5 = .ok (.aload_n 1, 1) := by decide +kernel
theorem dX0_settleOnce_6 : decode cX0_settleOnce 6 = .ok (.getfield 34, 3) := by decide +kernel
theorem dX0_settleOnce_9 : decode cX0_settleOnce 9 = .ok (.if_icmp .ge 69, 3) := by decide +kernel
theorem dX0_settleOnce_12 : decode cX0_settleOnce 12 = .ok (.aload_n 0, 1) := by decide +kernel
theorem dX0_settleOnce_13 : decode cX0_settleOnce 13 = .ok (.getfield 15, 3) := by decide +kernel
theorem dX0_settleOnce_16 : decode cX0_settleOnce 16 = .ok (.iload_n 3, 1) := by decide +kernel
theorem dX0_settleOnce_17 : decode cX0_settleOnce 17 = .ok (.laload, 1) := by decide +kernel
theorem dX0_settleOnce_18 : decode cX0_settleOnce 18 = .ok (.ldc2_w 40, 3) := by decide +kernel
theorem dX0_settleOnce_21 : decode cX0_settleOnce 21 = .ok (.lcmp, 1) := by decide +kernel
theorem dX0_settleOnce_22 : decode cX0_settleOnce 22 = .ok (.ifCond .eq 50, 3) := by decide +kernel
theorem dX0_settleOnce_25 : decode cX0_settleOnce 25 = .ok (.aload_n 1, 1) := by decide +kernel
theorem dX0_settleOnce_26 : decode cX0_settleOnce 26 = .ok (.getfield 42, 3) := by decide +kernel
theorem dX0_settleOnce_29 : decode cX0_settleOnce 29 = .ok (.iload_n 3, 1) := by decide +kernel
theorem dX0_settleOnce_30 : decode cX0_settleOnce 30 = .ok (.iaload, 1) := by decide +kernel
theorem dX0_settleOnce_31 : decode cX0_settleOnce 31 = .ok (.iconst (-1), 1) := by decide +kernel
theorem dX0_settleOnce_32 : decode cX0_settleOnce 32 = .ok (.if_icmp .ne 40, 3) := by decide +kernel
theorem dX0_settleOnce_35 : decode cX0_settleOnce 35 = .ok (.aload_n 0, 1) := by decide +kernel
theorem dX0_settleOnce_36 : decode cX0_settleOnce 36 = .ok (.iload_n 3, 1) := by decide +kernel
theorem dX0_settleOnce_37 : decode cX0_settleOnce 37 = .ok (.invokevirtual 86, 3) := by decide +kernel
theorem dX0_settleOnce_40 : decode cX0_settleOnce 40 = .ok (.lstore 4, 2) := by decide +kernel
theorem dX0_settleOnce_42 : decode cX0_settleOnce 42 = .ok (.iload_n 2, 1) := by decide +kernel
theorem dX0_settleOnce_43 : decode cX0_settleOnce 43 = .ok (.ifCond .ne 15, 3) := by decide +kernel
theorem dX0_settleOnce_46 : decode cX0_settleOnce 46 = .ok (.lload 4, 2) := by decide +kernel
theorem dX0_settleOnce_48 : decode cX0_settleOnce 48 = .ok (.aload_n 0, 1) := by decide +kernel
theorem dX0_settleOnce_49 : decode cX0_settleOnce 49 = .ok (.getfield 15, 3) := by decide +kernel
theorem dX0_settleOnce_52 : decode cX0_settleOnce 52 = .ok (.iload_n 3, 1) := by decide +kernel
theorem dX0_settleOnce_53 : decode cX0_settleOnce 53 = .ok (.laload, 1) := by decide +kernel
theorem dX0_settleOnce_54 : decode cX0_settleOnce 54 = .ok (.lcmp, 1) := by decide +kernel
theorem dX0_settleOnce_55 : decode cX0_settleOnce 55 = .ok (.ifCond .eq 7, 3) := by decide +kernel
theorem dX0_settleOnce_58 : decode cX0_settleOnce 58 = .ok (.iconst 1, 1) := by decide +kernel
theorem dX0_settleOnce_59 : decode cX0_settleOnce 59 = .ok (.goto 4, 3) := by decide +kernel
theorem dX0_settleOnce_62 : decode cX0_settleOnce 62 = .ok (.iconst 0, 1) := by decide +kernel
theorem dX0_settleOnce_63 : decode cX0_settleOnce 63 = .ok (.istore_n 2, 1) := by decide +kernel
theorem dX0_settleOnce_64 : decode cX0_settleOnce 64 = .ok (.aload_n 0, 1) := by decide +kernel
theorem dX0_settleOnce_65 : decode cX0_settleOnce 65 = .ok (.getfield 15, 3) := by decide +kernel
theorem dX0_settleOnce_68 : decode cX0_settleOnce 68 = .ok (.iload_n 3, 1) := by decide +kernel
theorem dX0_settleOnce_69 : decode cX0_settleOnce 69 = .ok (.lload 4, 2) := by decide +kernel
theorem dX0_settleOnce_71 : decode cX0_settleOnce 71 = .ok (.lastore, 1) := by decide +kernel
theorem dX0_settleOnce_72 : decode cX0_settleOnce 72 = .ok (.iinc 3 1, 3) := by decide +kernel
theorem dX0_settleOnce_75 : decode cX0_settleOnce 75 = .ok (.goto (-71), 3) := by decide +kernel
theorem dX0_settleOnce_78 : decode cX0_settleOnce 78 = .ok (.iload_n 2, 1) := by decide +kernel
theorem dX0_settleOnce_79 : decode cX0_settleOnce 79 = .ok (.ireturn, 1) := by decide +kernel
theorem dX0_settle_0 : decode cX0_settle 0 = .ok (.aload_n 0, 1) := by decide +kernel
theorem dX0_settle_1 : decode cX0_settle 1 = .ok (.aload_n 1, 1) := by decide +kernel
theorem dX0_settle_2 : decode cX0_settle 2 = .ok (.invokevirtual 61, 3) := by decide +kernel
theorem dX0_settle_5 : decode cX0_settle 5 = .ok (.aload_n 0, 1) := by decide +kernel
theorem dX0_settle_6 : decode cX0_settle 6 = .ok (.getfield 9, 3) := by decide +kernel
theorem dX0_settle_9 : decode cX0_settle 9 = .ok (.iconst 0, 1) := by decide +kernel
theorem dX0_settle_10 : decode cX0_settle 10 = .ok (.aload_n 0, 1) := by decide +kernel
theorem dX0_settle_11 : decode cX0_settle 11 = .ok (.getfield 15, 3) := by decide +kernel
theorem dX0_settle_14 : decode cX0_settle 14 = .ok (.iconst 0, 1) := by decide +kernel
theorem dX0_settle_15 : decode cX0_settle 15 = .ok (.bipush 16, 2) := by decide +kernel
theorem dX0_settle_17 : decode cX0_settle 17 = .ok (.invokestatic 65, 3) := by decide +kernel
theorem dX0_settle_20 : decode cX0_settle 20 = .ok (.aload_n 0, 1) := by decide +kernel
theorem dX0_settle_21 : decode cX0_settle 21 = .ok (.iconst 1, 1) := by decide +kernel
theorem dX0_settle_22 : decode cX0_settle 22 = .ok (.putfield 71, 3) := by decide +kernel
theorem dX0_settle_25 : decode cX0_settle 25 = .ok (.aload_n 0, 1) := by decide +kernel
theorem dX0_settle_26 : decode cX0_settle 26 = .ok (.aload_n 1, 1) := by decide +kernel
theorem dX0_settle_27 : decode cX0_settle 27 = .ok (.invokevirtual 75, 3) := by decide +kernel
theorem dX0_settle_30 : decode cX0_settle 30 = .ok (.iconst 0, 1) := by decide +kernel
theorem dX0_settle_31 : decode cX0_settle 31 = .ok (.istore_n 3, 1) := by decide +kernel
theorem dX0_settle_32 : decode cX0_settle 32 = .ok (.iconst 1, 1) := by decide +kernel
theorem dX0_settle_33 : decode cX0_settle 33 = .ok (.istore 4, 2) := by decide +kernel
theorem dX0_settle_35 : decode cX0_settle 35 = .ok (.iload_n 3, 1) := by decide +kernel
theorem dX0_settle_36 : decode cX0_settle 36 = .ok (.iload_n 2, 1) := by decide +kernel
theorem dX0_settle_37 : decode cX0_settle 37 = .ok (.if_icmp .ge 21, 3) := by decide +kernel
theorem dX0_settle_40 : decode cX0_settle 40 = .ok (.iload 4, 2) := by decide +kernel
theorem dX0_settle_42 : decode cX0_settle 42 = .ok (.ifCond .eq 16, 3) := by decide +kernel
theorem dX0_settle_45 : decode cX0_settle 45 = .ok (.aload_n 0, 1) := by decide +kernel
theorem dX0_settle_46 : decode cX0_settle 46 = .ok (.aload_n 1, 1) := by decide +kernel
theorem dX0_settle_47 : decode cX0_settle 47 = .ok (.invokevirtual 78, 3) := by decide +kernel
theorem dX0_settle_50 : decode cX0_settle 50 = .ok (.istore 4, 2) := by decide +kernel
theorem dX0_settle_52 : decode cX0_settle 52 = .ok (.iinc 3 1, 3) := by decide +kernel
theorem dX0_settle_55 : decode cX0_settle 55 = .ok (.goto (-20), 3) := by decide +kernel
theorem dX0_settle_58 : decode cX0_settle 58 = .ok (.iload_n 3, 1) := by decide +kernel
theorem dX0_settle_59 : decode cX0_settle 59 = .ok (.ireturn, 1) := by decide +kernel
theorem dX0_settledHeight_0 : decode cX0_settledHeight 0 = .ok (.aload_n 0, 1) := by decide +kernel
theorem dX0_settledHeight_1 : decode cX0_settledHeight 1 = .ok (.getfield 71, 3) := by decide +kernel
theorem dX0_settledHeight_4 : decode cX0_settledHeight 4 = .ok (.ifCond .eq 12, 3) := by decide +kernel
theorem dX0_settledHeight_7 : decode cX0_settledHeight 7 = .ok (.aload_n 0, 1) := by decide +kernel
theorem dX0_settledHeight_8 : decode cX0_settledHeight 8 = .ok (.getfield 15, 3) := by decide +kernel
theorem dX0_settledHeight_11 : decode cX0_settledHeight 11 = .ok (.iload_n 1, 1) := by decide +kernel
theorem dX0_settledHeight_12 : decode cX0_settledHeight 12 = .ok (.laload, 1) := by decide +kernel
theorem dX0_settledHeight_13 : decode cX0_settledHeight 13 = .ok (.goto 6, 3) := by decide +kernel
theorem dX0_settledHeight_16 : decode cX0_settledHeight 16 = .ok (.ldc2_w 40, 3) := by decide +kernel
theorem dX0_settledHeight_19 : decode cX0_settledHeight 19 = .ok (.lreturn, 1) := by decide +kernel
theorem dX0_misfit_0 : decode cX0_misfit 0 = .ok (.aload_n 0, 1) := by decide +kernel
theorem dX0_misfit_1 : decode cX0_misfit 1 = .ok (.aload_n 1, 1) := by decide +kernel
theorem dX0_misfit_2 : decode cX0_misfit 2 = .ok (.getfield 98, 3) := by decide +kernel
theorem dX0_misfit_5 : decode cX0_misfit 5 = .ok (.iload_n 2, 1) := by decide +kernel
theorem dX0_misfit_6 : decode cX0_misfit 6 = .ok (.iaload, 1) := by decide +kernel
theorem dX0_misfit_7 : decode cX0_misfit 7 = .ok (.invokevirtual 101, 3) := by decide +kernel
theorem dX0_misfit_10 : decode cX0_misfit 10 = .ok (.lstore_n 3, 1) := by decide +kernel
theorem dX0_misfit_11 : decode cX0_misfit 11 = .ok (.aload_n 0, 1) := by decide +kernel
theorem dX0_misfit_12 : decode cX0_misfit 12 = .ok (.aload_n 1, 1) := by decide +kernel
theorem dX0_misfit_13 : decode cX0_misfit 13 = .ok (.getfield 104, 3) := by decide +kernel
theorem dX0_misfit_16 : decode cX0_misfit 16 = .ok (.iload_n 2, 1) := by decide +kernel
theorem dX0_misfit_17 : decode cX0_misfit 17 = .ok (.iaload, 1) := by decide +kernel
theorem dX0_misfit_18 : decode cX0_misfit 18 = .ok (.invokevirtual 101, 3) := by decide +kernel
theorem dX0_misfit_21 : decode cX0_misfit 21 = .ok (.lstore 5, 2) := by decide +kernel
theorem dX0_misfit_23 : decode cX0_misfit 23 = .ok (.aload_n 1, 1) := by decide +kernel
theorem dX0_misfit_24 : decode cX0_misfit 24 = .ok (.iload_n 2, 1) := by decide +kernel
theorem dX0_misfit_25 : decode cX0_misfit 25 = .ok (.invokevirtual 107, 3) := by decide +kernel
theorem dX0_misfit_28 : decode cX0_misfit 28 = .ok (.ifCond .eq 20, 3) := by decide +kernel
theorem dX0_misfit_31 : decode cX0_misfit 31 = .ok (.lload_n 3, 1) := by decide +kernel
theorem dX0_misfit_32 : decode cX0_misfit 32 = .ok (.ldc2_w 40, 3) := by decide +kernel
theorem dX0_misfit_35 : decode cX0_misfit 35 = .ok (.lcmp, 1) := by decide +kernel
theorem dX0_misfit_36 : decode cX0_misfit 36 = .ok (.ifCond .eq 12, 3) := by decide +kernel
theorem dX0_misfit_39 : decode cX0_misfit 39 = .ok (.lload 5, 2) := by decide +kernel
theorem dX0_misfit_41 : decode cX0_misfit 41 = .ok (.ldc2_w 40, 3) := by decide +kernel
theorem dX0_misfit_44 : decode cX0_misfit 44 = .ok (.lcmp, 1) := by decide +kernel
theorem dX0_misfit_45 : decode cX0_misfit 45 = .ok (.ifCond .ne 7, 3) := by decide +kernel
theorem dX0_misfit_48 : decode cX0_misfit 48 = .ok (.ldc2_w 40, 3) := by decide +kernel
theorem dX0_misfit_51 : decode cX0_misfit 51 = .ok (.lreturn, 1) := by decide +kernel
theorem dX0_misfit_52 : decode cX0_misfit 52 = .ok (.lload 5, 2) := by decide +kernel
theorem dX0_misfit_54 : decode cX0_misfit 54 = .ok (.lload_n 3, 1) := by decide +kernel
theorem dX0_misfit_55 : decode cX0_misfit 55 = .ok (.lsub, 1) := by decide +kernel
theorem dX0_misfit_56 : decode cX0_misfit 56 = .ok (.aload_n 1, 1) := by decide +kernel
theorem dX0_misfit_57 : decode cX0_misfit 57 = .ok (.iload_n 2, 1) := by decide +kernel
theorem dX0_misfit_58 : decode cX0_misfit 58 = .ok (.invokevirtual 111, 3) := by decide +kernel
theorem dX0_misfit_61 : decode cX0_misfit 61 = .ok (.i2l, 1) := by decide +kernel
theorem dX0_misfit_62 : decode cX0_misfit 62 = .ok (.lsub, 1) := by decide +kernel
theorem dX0_misfit_63 : decode cX0_misfit 63 = .ok (.lreturn, 1) := by decide +kernel
theorem dX1_keep_0 : decode cX1_keep 0 = .ok (.aload_n 0, 1) := by decide +kernel
theorem dX1_keep_1 : decode cX1_keep 1 = .ok (.getfield 29, 3) := by decide +kernel
theorem dX1_keep_4 : decode cX1_keep 4 = .ok (.bipush 8, 2) := by decide +kernel
theorem dX1_keep_6 : decode cX1_keep 6 = .ok (.if_icmp .ne 26, 3) := by decide +kernel
theorem dX1_keep_9 : decode cX1_keep 9 = .ok (.aload_n 0, 1) := by decide +kernel
theorem dX1_keep_10 : decode cX1_keep 10 = .ok (.aload_n 0, 1) := by decide +kernel
theorem dX1_keep_11 : decode cX1_keep 11 = .ok (.getfield 33, 3) := by decide +kernel
theorem dX1_keep_14 : decode cX1_keep 14 = .ok (.iconst 1, 1) := by decide +kernel
theorem dX1_keep_15 : decode cX1_keep 15 = .ok (.iadd, 1) := by decide +kernel
theorem dX1_keep_16 : decode cX1_keep 16 = .ok (.bipush 8, 2) := by decide +kernel
theorem dX1_keep_18 : decode cX1_keep 18 = .ok (.irem, 1) := by decide +kernel
theorem dX1_keep_19 : decode cX1_keep 19 = .ok (.putfield 33, 3) := by decide +kernel
theorem dX1_keep_22 : decode cX1_keep 22 = .ok (.aload_n 0, 1) := by decide +kernel
theorem dX1_keep_23 : decode cX1_keep 23 = .ok (.dup, 1) := by decide +kernel
theorem dX1_keep_24 : decode cX1_keep 24 = .ok (.getfield 29, 3) := by decide +kernel
theorem dX1_keep_27 : decode cX1_keep 27 = .ok (.iconst 1, 1) := by decide +kernel
theorem dX1_keep_28 : decode cX1_keep 28 = .ok (.isub, 1) := by decide +kernel
theorem dX1_keep_29 : decode cX1_keep 29 = .ok (.putfield 29, 3) := by decide +kernel
theorem dX1_keep_32 : decode cX1_keep 32 = .ok (.aload_n 0, 1) := by decide +kernel
theorem dX1_keep_33 : decode cX1_keep 33 = .ok (.getfield 33, 3) := by decide +kernel
theorem dX1_keep_36 : decode cX1_keep 36 = .ok (.aload_n 0, 1) := by decide +kernel
theorem dX1_keep_37 : decode cX1_keep 37 = .ok (.getfield 29, 3) := by decide +kernel
theorem dX1_keep_40 : decode cX1_keep 40 = .ok (.iadd, 1) := by decide +kernel
theorem dX1_keep_41 : decode cX1_keep 41 = .ok (.bipush 8, 2) := by decide +kernel
theorem dX1_keep_43 : decode cX1_keep 43 = .ok (.irem, 1) := by decide +kernel
theorem dX1_keep_44 : decode cX1_keep 44 = .ok (.istore 5, 2) := by decide +kernel
theorem dX1_keep_46 : decode cX1_keep 46 = .ok (.aload_n 0, 1) := by decide +kernel
theorem dX1_keep_47 : decode cX1_keep 47 = .ok (.getfield 9, 3) := by decide +kernel
theorem dX1_keep_50 : decode cX1_keep 50 = .ok (.iload 5, 2) := by decide +kernel
theorem dX1_keep_52 : decode cX1_keep 52 = .ok (.iload_n 1, 1) := by decide +kernel
theorem dX1_keep_53 : decode cX1_keep 53 = .ok (.iastore, 1) := by decide +kernel
theorem dX1_keep_54 : decode cX1_keep 54 = .ok (.aload_n 0, 1) := by decide +kernel
theorem dX1_keep_55 : decode cX1_keep 55 = .ok (.getfield 15, 3) := by decide +kernel
theorem dX1_keep_58 : decode cX1_keep 58 = .ok (.iload 5, 2) := by decide +kernel
theorem dX1_keep_60 : decode cX1_keep 60 = .ok (.iload_n 2, 1) := by decide +kernel
theorem dX1_keep_61 : decode cX1_keep 61 = .ok (.iastore, 1) := by decide +kernel
theorem dX1_keep_62 : decode cX1_keep 62 = .ok (.aload_n 0, 1) := by decide +kernel
theorem dX1_keep_63 : decode cX1_keep 63 = .ok (.getfield 18, 3) := by decide +kernel
theorem dX1_keep_66 : decode cX1_keep 66 = .ok (.iload 5, 2) := by decide +kernel
theorem dX1_keep_68 : decode cX1_keep 68 = .ok (.iload_n 3, 1) := by decide +kernel
theorem dX1_keep_69 : decode cX1_keep 69 = .ok (.iastore, 1) := by decide +kernel
theorem dX1_keep_70 : decode cX1_keep 70 = .ok (.aload_n 0, 1) := by decide +kernel
theorem dX1_keep_71 : decode cX1_keep 71 = .ok (.getfield 21, 3) := by decide +kernel
theorem dX1_keep_74 : decode cX1_keep 74 = .ok (.iload 5, 2) := by decide +kernel
theorem dX1_keep_76 : decode cX1_keep 76 = .ok (.aload 4, 2) := by decide +kernel
theorem dX1_keep_78 : decode cX1_keep 78 = .ok (.getfield 36, 3) := by decide +kernel
theorem dX1_keep_81 : decode cX1_keep 81 = .ok (.bastore, 1) := by decide +kernel
theorem dX1_keep_82 : decode cX1_keep 82 = .ok (.aload 4, 2) := by decide +kernel
theorem dX1_keep_84 : decode cX1_keep 84 = .ok (.getfield 41, 3) := by decide +kernel
theorem dX1_keep_87 : decode cX1_keep 87 = .ok (.iconst 0, 1) := by decide +kernel
theorem dX1_keep_88 : decode cX1_keep 88 = .ok (.aload_n 0, 1) := by decide +kernel
theorem dX1_keep_89 : decode cX1_keep 89 = .ok (.getfield 25, 3) := by decide +kernel
theorem dX1_keep_92 : decode cX1_keep 92 = .ok (.iload 5, 2) := by decide +kernel
theorem dX1_keep_94 : decode cX1_keep 94 = .ok (.bipush 16, 2) := by decide +kernel
theorem dX1_keep_96 : decode cX1_keep 96 = .ok (.imul, 1) := by decide +kernel
theorem dX1_keep_97 : decode cX1_keep 97 = .ok (.bipush 16, 2) := by decide +kernel
theorem dX1_keep_99 : decode cX1_keep 99 = .ok (.invokestatic 42, 3) := by decide +kernel
theorem dX1_keep_102 : decode cX1_keep 102 = .ok (.aload_n 0, 1) := by decide +kernel
theorem dX1_keep_103 : decode cX1_keep 103 = .ok (.dup, 1) := by decide +kernel
theorem dX1_keep_104 : decode cX1_keep 104 = .ok (.getfield 29, 3) := by decide +kernel
theorem dX1_keep_107 : decode cX1_keep 107 = .ok (.iconst 1, 1) := by decide +kernel
theorem dX1_keep_108 : decode cX1_keep 108 = .ok (.iadd, 1) := by decide +kernel
theorem dX1_keep_109 : decode cX1_keep 109 = .ok (.putfield 29, 3) := by decide +kernel
theorem dX1_keep_112 : decode cX1_keep 112 = .ok (.return_, 1) := by decide +kernel
def f_X6_shorten (p1 : Int32) (p2 : Int32) (p3 : Int32) (μ : gM) : Option (Bool × gM) :=
  gchk (gIn p1 16) (if ((gi μ 4 p1.toNatClampNeg) = (-1 : Int32)) then some (false, μ) else gchk (gIn p1 16) (gchk (gIn p2 16) (if ((gi μ 4 p2.toNatClampNeg) = (-1 : Int32)) then gchk (gIn p2 16) (some (true, (si μ 4 p2.toNatClampNeg ((gi μ 4 p1.toNatClampNeg) + p3)))) else gchk (gIn p2 16) (if (((gi μ 4 p1.toNatClampNeg) + p3) < (gi μ 4 p2.toNatClampNeg)) then gchk (gIn p2 16) (some (true, (si μ 4 p2.toNatClampNeg ((gi μ 4 p1.toNatClampNeg) + p3)))) else some (false, μ)))))
set_option maxHeartbeats 4000000 in
set_option maxRecDepth 100000 in
theorem c_X6_shorten {l : Launch} {D : va_G} {cy : Nat → ClassId} {ad : Nat → Nat} {base : gBs} {p1 : Int32} {p2 : Int32} {p3 : Int32} {μ : gM} {RES : Bool × gM} (h : f_X6_shorten p1 p2 p3 μ = some RES) : Met l yX6_shorten [.code yX6_shorten cX6_shorten 5 (some .boolean)] ({ frames := 0, cells := 0, slots := 0, locals := 0 } : Room) (va_Pc [.ref (ad 3), .int p1, .int p2, .int p3] (gB l gFull D cy ad base μ)) (gQ (some (.int (b2i RES.1))) gFull D cy ad base RES.2) 0 0 (gA base) := by
  refine Met.ofW (cc := cX6_shorten) (maxL := 5) (ret := (some .boolean)) (by decide) rfl ?_
  intro p e s m args below meth c s₁ B hml0 hv
  obtain ⟨rfl, E, hM⟩ := hv
  have F : gF p s m meth c cX6_shorten RX6 5 (some .boolean) := gF_of B hml0
  obtain ⟨hx, hb, hml, hown, hlocks, hr⟩ := id F
  have hS : va_S (gA base) s.heap s.heap [] := va_S.rf
  have hl := lv_entry ([.ref (ad 3), .int p1, .int p2, .int p3]) (n := 5) (Nat.le_of_ble_eq_true rfl)
  rw [lg_entry_eq]
  generalize (lg_sl ([.ref (ad 3), .int p1, .int p2, .int p3]) ++ List.replicate (5 - (lg_sl ([.ref (ad 3), .int p1, .int p2, .int p3])).length) Slot.unset).toArray = ls at hl ⊢
  have hl : lv_has ls 5 [(0, .ref (ad 3)), (1, .int p1), (2, .int p2), (3, .int p3)] := hl
  unfold f_X6_shorten at h
  refine lv_aload_n hx hb dX6_shorten_0 rfl (lv_at hl 0 rfl) ?_
  refine gg_3_0 hx hb hown E hM hk_3 kw_214 dX6_shorten_1 ?_
  refine lv_iload_n hx hb dX6_shorten_4 rfl (lv_at hl 1 rfl) ?_
  obtain ⟨c1, h⟩ := gchk_e h
  refine g_iald hx hb E hM hk_4 dd_4 c1 dX6_shorten_5 ?_
  refine lv_iconst (v := (-1 : Int32)) hx hb dX6_shorten_6 (by decide) ?_
  refine lv_icmp_ne (tgt := 12) hx hb dX6_shorten_7 (by decide) (fun c2 => ?_) (fun c2 => ?_)
  · replace h := gif_f c2 h
    refine lv_aload_n hx hb dX6_shorten_12 rfl (lv_at hl 0 rfl) ?_
    refine gg_3_0 hx hb hown E hM hk_3 kw_214 dX6_shorten_13 ?_
    refine lv_iload_n hx hb dX6_shorten_16 rfl (lv_at hl 1 rfl) ?_
    obtain ⟨c3, h⟩ := gchk_e h
    refine g_iald hx hb E hM hk_4 dd_4 c3 dX6_shorten_17 ?_
    refine lv_iload_n hx hb dX6_shorten_18 rfl (lv_at hl 3 rfl) ?_
    refine lv_iadd hx hb dX6_shorten_19 ?_
    refine lv_istore (lv' := [(4, .int ((gi μ 4 p1.toNatClampNeg) + p3)), (0, .ref (ad 3)), (1, .int p1), (2, .int p2), (3, .int p3)]) hx hb dX6_shorten_20 hl (by decide) rfl (fun ls hl => ?_)
    refine lv_aload_n hx hb dX6_shorten_22 rfl (lv_at hl 1 rfl) ?_
    refine gg_3_0 hx hb hown E hM hk_3 kw_214 dX6_shorten_23 ?_
    refine lv_iload_n hx hb dX6_shorten_26 rfl (lv_at hl 3 rfl) ?_
    obtain ⟨c4, h⟩ := gchk_e h
    refine g_iald hx hb E hM hk_4 dd_4 c4 dX6_shorten_27 ?_
    refine lv_iconst (v := (-1 : Int32)) hx hb dX6_shorten_28 (by decide) ?_
    refine lv_icmp_eq (tgt := 45) hx hb dX6_shorten_29 (by decide) (fun c5 => ?_) (fun c5 => ?_)
    · replace h := gif_t c5 h
      refine lv_aload_n hx hb dX6_shorten_45 rfl (lv_at hl 1 rfl) ?_
      refine gg_3_0 hx hb hown E hM hk_3 kw_214 dX6_shorten_46 ?_
      refine lv_iload_n hx hb dX6_shorten_49 rfl (lv_at hl 3 rfl) ?_
      refine lv_iload hx hb dX6_shorten_50 (lv_at hl 0 rfl) ?_
      obtain ⟨c6, h⟩ := gchk_e h
      refine g_iast hx hb E hM hS hk_4 dd_4 c6 dX6_shorten_52 (fun H locs hM hS => ?_)
      refine lv_iconst (v := (1 : Int32)) hx hb dX6_shorten_53 (by decide) ?_
      obtain rfl := Option.some.inj h
      exact g_zret (v := b2i true) hx hb hr hlocks (b2i_nar true) hM hS dX6_shorten_54
    · replace h := gif_f c5 h
      refine lv_aload_n hx hb dX6_shorten_32 rfl (lv_at hl 1 rfl) ?_
      refine gg_3_0 hx hb hown E hM hk_3 kw_214 dX6_shorten_33 ?_
      refine lv_iload_n hx hb dX6_shorten_36 rfl (lv_at hl 3 rfl) ?_
      obtain ⟨c7, h⟩ := gchk_e h
      refine g_iald hx hb E hM hk_4 dd_4 c7 dX6_shorten_37 ?_
      refine lv_iload hx hb dX6_shorten_38 (lv_at hl 0 rfl) ?_
      refine lv_icmp_gt (tgt := 45) hx hb dX6_shorten_40 (by decide) (fun c8 => ?_) (fun c8 => ?_)
      · replace h := gif_t c8 h
        refine lv_aload_n hx hb dX6_shorten_45 rfl (lv_at hl 1 rfl) ?_
        refine gg_3_0 hx hb hown E hM hk_3 kw_214 dX6_shorten_46 ?_
        refine lv_iload_n hx hb dX6_shorten_49 rfl (lv_at hl 3 rfl) ?_
        refine lv_iload hx hb dX6_shorten_50 (lv_at hl 0 rfl) ?_
        obtain ⟨c9, h⟩ := gchk_e h
        refine g_iast hx hb E hM hS hk_4 dd_4 c9 dX6_shorten_52 (fun H locs hM hS => ?_)
        refine lv_iconst (v := (1 : Int32)) hx hb dX6_shorten_53 (by decide) ?_
        obtain rfl := Option.some.inj h
        exact g_zret (v := b2i true) hx hb hr hlocks (b2i_nar true) hM hS dX6_shorten_54
      · replace h := gif_f c8 h
        refine lv_iconst (v := (0 : Int32)) hx hb dX6_shorten_43 (by decide) ?_
        obtain rfl := Option.some.inj h
        exact g_zret (v := b2i false) hx hb hr hlocks (b2i_nar false) hM hS dX6_shorten_44
  · replace h := gif_t c2 h
    refine lv_iconst (v := (0 : Int32)) hx hb dX6_shorten_10 (by decide) ?_
    obtain rfl := Option.some.inj h
    exact g_zret (v := b2i false) hx hb hr hlocks (b2i_nar false) hM hS dX6_shorten_11
def b_X6_shortenAll_4 (x2 : Int32) (x3 : Int32) (μ : gM) : Option ((Int32 × Int32 × gM) ⊕ (Int32 × gM)) :=
  if ((gi μ 34 2) ≤ x3) then some (.inr (x2, μ)) else Option.bind (f_X3_isActive x3 μ) (fun q2 => if ((b2i q2) = 0) then some (.inl (x2, (x3 + (1 : Int32)), μ)) else gchk (gIn x3 20) (gchk (gIn x3 20) (gchk (gIn x3 20) (Option.bind (f_X6_shorten (gi μ 40 x3.toNatClampNeg) (gi μ 41 x3.toNatClampNeg) (gi μ 5 x3.toNatClampNeg) μ) (fun q7 => gchk (gIn x3 20) (Option.bind (f_X6_shorten (gi μ 41 x3.toNatClampNeg) (gi μ 40 x3.toNatClampNeg) (gi q7.2 5 x3.toNatClampNeg) q7.2) (fun q9 => if (x2 = 0) then if ((b2i q7.1) = 0) then if ((b2i q9.1) = 0) then some (.inl ((0 : Int32), (x3 + (1 : Int32)), q9.2)) else some (.inl ((1 : Int32), (x3 + (1 : Int32)), q9.2)) else some (.inl ((1 : Int32), (x3 + (1 : Int32)), q9.2)) else some (.inl ((1 : Int32), (x3 + (1 : Int32)), q9.2)))))))))
set_option maxHeartbeats 4000000 in
set_option maxRecDepth 100000 in
theorem wb_X6_shortenAll_4 {p : Program} {l : Launch} {e : Env} {s : State} {m : MethodId} {args : Array Value} {below : List Frame} {meth : Method} {c : Code} {D : va_G} {cy : Nat → ClassId} {ad : Nat → Nat} {base : gBs} {x2 : Int32} {x3 : Int32} {μ : gM} {o : (Int32 × Int32 × gM) ⊕ (Int32 × gM)} {RES : Bool × gM} (h : b_X6_shortenAll_4 x2 x3 μ = some o) (F : gF p s m meth c cX6_shortenAll RX6 8 (some .boolean)) (E : gEnv l D cy ad base s) (kc : ∀ (t : Int32 × Int32 × gM) {H : Heap} {locs : List Loc} {ls : Array Slot}, o = .inl t → gW gFull D cy ad base t.2.2 H → va_S (gA base) s.heap H locs → lv_has ls 8 [(0, .ref (ad 3)), (1, .ref (ad 34)), (2, .int t.1), (3, .int t.2.1)] → W p l e ({ frames := 1, cells := 0, slots := 0, locals := 24 } : Room) s m args below meth c H locs 0 0 (MQ below (gQ (some (.int (b2i RES.1))) gFull D cy ad base RES.2) args s 0 0 (gA base)) (F0 m 4 ls [])) (kx : ∀ (t : Int32 × gM) {H : Heap} {locs : List Loc} {ls : Array Slot}, o = .inr t → gW gFull D cy ad base t.2 H → va_S (gA base) s.heap H locs → lv_has ls 8 [(2, .int t.1)] → W p l e ({ frames := 1, cells := 0, slots := 0, locals := 24 } : Room) s m args below meth c H locs 0 0 (MQ below (gQ (some (.int (b2i RES.1))) gFull D cy ad base RES.2) args s 0 0 (gA base)) (F0 m 94 ls []))  {H : Heap} {locs : List Loc} {ls : Array Slot} (hM : gW gFull D cy ad base μ H) (hS : va_S (gA base) s.heap H locs) (hl : lv_has ls 8 [(0, .ref (ad 3)), (1, .ref (ad 34)), (2, .int x2), (3, .int x3)]) : W p l e ({ frames := 1, cells := 0, slots := 0, locals := 24 } : Room) s m args below meth c H locs 0 0 (MQ below (gQ (some (.int (b2i RES.1))) gFull D cy ad base RES.2) args s 0 0 (gA base)) (F0 m 4 ls []) := by
  obtain ⟨hx, hb, hml, hown, hlocks, hr⟩ := id F
  unfold b_X6_shortenAll_4 at h
  refine lv_iload_n hx hb dX6_shortenAll_4 rfl (lv_at hl 3 rfl) ?_
  refine lv_aload_n hx hb dX6_shortenAll_5 rfl (lv_at hl 1 rfl) ?_
  refine gg_34_2 hx hb hown E hM hk_34 kw_399 dX6_shortenAll_6 ?_
  refine lv_icmp_ge (tgt := 94) hx hb dX6_shortenAll_9 (by decide) (fun c1 => ?_) (fun c1 => ?_)
  · replace h := gif_t c1 h
    exact kx _ (Option.some.inj h).symm hM hS (lv_sub hl [2] rfl)
  · replace h := gif_f c1 h
    refine lv_aload_n hx hb dX6_shortenAll_12 rfl (lv_at hl 1 rfl) ?_
    refine lv_iload_n hx hb dX6_shortenAll_13 rfl (lv_at hl 3 rfl) ?_
    obtain ⟨q2, hq2, h⟩ := gbind_e h
    refine g_callV (As := [.int x3]) (rest := []) hx hb (hml.trans hl.1.symm) hown E hM hS hy_X3_isActive kw_1262 (c_X3_isActive hq2) hk_34 dd_34 rfl rfl rfl (Nat.le_of_ble_eq_true rfl) ⟨Nat.le_of_ble_eq_true rfl, Nat.le_of_ble_eq_true rfl⟩ ⟨Nat.le_of_ble_eq_true rfl, Nat.le_of_ble_eq_true rfl⟩ dX6_shortenAll_14 (fun H locs hM hS => ?_)
    refine lv_if_eq (tgt := 88) hx hb dX6_shortenAll_17 (by decide) (fun c3 => ?_) (fun c3 => ?_)
    · replace h := gif_t c3 h
      refine lv_iinc (v := (x3 + (1 : Int32))) (lv' := [(3, .int (x3 + (1 : Int32))), (0, .ref (ad 3)), (1, .ref (ad 34)), (2, .int x2)]) hx hb dX6_shortenAll_88 hl (k := 3) rfl rfl (by decide) rfl (fun ls hl => ?_)
      refine lv_goto (tgt := 4) hx hb dX6_shortenAll_91 (by decide) ?_
      exact kc _ (Option.some.inj h).symm hM hS (lv_sub hl [1, 2, 3, 0] rfl)
    · replace h := gif_f c3 h
      refine lv_aload_n hx hb dX6_shortenAll_20 rfl (lv_at hl 1 rfl) ?_
      refine gg_34_10 hx hb hown E hM hk_34 kw_427 dX6_shortenAll_21 ?_
      refine lv_iload_n hx hb dX6_shortenAll_24 rfl (lv_at hl 3 rfl) ?_
      obtain ⟨c4, h⟩ := gchk_e h
      refine g_iald hx hb E hM hk_40 dd_40 c4 dX6_shortenAll_25 ?_
      refine lv_istore (lv' := [(4, .int (gi μ 40 x3.toNatClampNeg)), (0, .ref (ad 3)), (1, .ref (ad 34)), (2, .int x2), (3, .int x3)]) hx hb dX6_shortenAll_26 hl (by decide) rfl (fun ls hl => ?_)
      refine lv_aload_n hx hb dX6_shortenAll_28 rfl (lv_at hl 2 rfl) ?_
      refine gg_34_11 hx hb hown E hM hk_34 kw_434 dX6_shortenAll_29 ?_
      refine lv_iload_n hx hb dX6_shortenAll_32 rfl (lv_at hl 4 rfl) ?_
      obtain ⟨c5, h⟩ := gchk_e h
      refine g_iald hx hb E hM hk_41 dd_41 c5 dX6_shortenAll_33 ?_
      refine lv_istore (lv' := [(5, .int (gi μ 41 x3.toNatClampNeg)), (4, .int (gi μ 40 x3.toNatClampNeg)), (0, .ref (ad 3)), (1, .ref (ad 34)), (2, .int x2), (3, .int x3)]) hx hb dX6_shortenAll_34 hl (by decide) rfl (fun ls hl => ?_)
      refine lv_aload_n hx hb dX6_shortenAll_36 rfl (lv_at hl 2 rfl) ?_
      refine lv_iload hx hb dX6_shortenAll_37 (lv_at hl 1 rfl) ?_
      refine lv_iload hx hb dX6_shortenAll_39 (lv_at hl 0 rfl) ?_
      refine lv_aload_n hx hb dX6_shortenAll_41 rfl (lv_at hl 2 rfl) ?_
      refine gg_3_1 hx hb hown E hM hk_3 kw_216 dX6_shortenAll_42 ?_
      refine lv_iload_n hx hb dX6_shortenAll_45 rfl (lv_at hl 5 rfl) ?_
      obtain ⟨c6, h⟩ := gchk_e h
      refine g_iald hx hb E hM hk_5 dd_5 c6 dX6_shortenAll_46 ?_
      obtain ⟨q7, hq7, h⟩ := gbind_e h
      refine g_callV (As := [.int (gi μ 40 x3.toNatClampNeg), .int (gi μ 41 x3.toNatClampNeg), .int (gi μ 5 x3.toNatClampNeg)]) (rest := []) hx hb (hml.trans hl.1.symm) hown E hM hS hy_X6_shorten kw_1263 (c_X6_shorten hq7) hk_3 dd_3 rfl rfl rfl (Nat.le_of_ble_eq_true rfl) ⟨Nat.le_of_ble_eq_true rfl, Nat.le_of_ble_eq_true rfl⟩ ⟨Nat.le_of_ble_eq_true rfl, Nat.le_of_ble_eq_true rfl⟩ dX6_shortenAll_47 (fun H locs hM hS => ?_)
      refine lv_istore (lv' := [(6, .int (b2i q7.1)), (5, .int (gi μ 41 x3.toNatClampNeg)), (4, .int (gi μ 40 x3.toNatClampNeg)), (0, .ref (ad 3)), (1, .ref (ad 34)), (2, .int x2), (3, .int x3)]) hx hb dX6_shortenAll_50 hl (by decide) rfl (fun ls hl => ?_)
      refine lv_aload_n hx hb dX6_shortenAll_52 rfl (lv_at hl 3 rfl) ?_
      refine lv_iload hx hb dX6_shortenAll_53 (lv_at hl 1 rfl) ?_
      refine lv_iload hx hb dX6_shortenAll_55 (lv_at hl 2 rfl) ?_
      refine lv_aload_n hx hb dX6_shortenAll_57 rfl (lv_at hl 3 rfl) ?_
      refine gg_3_1 hx hb hown E hM hk_3 kw_216 dX6_shortenAll_58 ?_
      refine lv_iload_n hx hb dX6_shortenAll_61 rfl (lv_at hl 6 rfl) ?_
      obtain ⟨c8, h⟩ := gchk_e h
      refine g_iald hx hb E hM hk_5 dd_5 c8 dX6_shortenAll_62 ?_
      obtain ⟨q9, hq9, h⟩ := gbind_e h
      refine g_callV (As := [.int (gi μ 41 x3.toNatClampNeg), .int (gi μ 40 x3.toNatClampNeg), .int (gi q7.2 5 x3.toNatClampNeg)]) (rest := []) hx hb (hml.trans hl.1.symm) hown E hM hS hy_X6_shorten kw_1263 (c_X6_shorten hq9) hk_3 dd_3 rfl rfl rfl (Nat.le_of_ble_eq_true rfl) ⟨Nat.le_of_ble_eq_true rfl, Nat.le_of_ble_eq_true rfl⟩ ⟨Nat.le_of_ble_eq_true rfl, Nat.le_of_ble_eq_true rfl⟩ dX6_shortenAll_63 (fun H locs hM hS => ?_)
      refine lv_istore (lv' := [(7, .int (b2i q9.1)), (6, .int (b2i q7.1)), (5, .int (gi μ 41 x3.toNatClampNeg)), (4, .int (gi μ 40 x3.toNatClampNeg)), (0, .ref (ad 3)), (1, .ref (ad 34)), (2, .int x2), (3, .int x3)]) hx hb dX6_shortenAll_66 hl (by decide) rfl (fun ls hl => ?_)
      refine lv_iload_n hx hb dX6_shortenAll_68 rfl (lv_at hl 6 rfl) ?_
      refine lv_if_ne (tgt := 82) hx hb dX6_shortenAll_69 (by decide) (fun c10 => ?_) (fun c10 => ?_)
      · replace h := gif_f c10 h
        refine lv_iconst (v := (1 : Int32)) hx hb dX6_shortenAll_82 (by decide) ?_
        refine lv_goto (tgt := 87) hx hb dX6_shortenAll_83 (by decide) ?_
        refine lv_istore_n (lv' := [(2, .int (1 : Int32)), (7, .int (b2i q9.1)), (6, .int (b2i q7.1)), (5, .int (gi μ 41 x3.toNatClampNeg)), (4, .int (gi μ 40 x3.toNatClampNeg)), (0, .ref (ad 3)), (1, .ref (ad 34)), (3, .int x3)]) hx hb dX6_shortenAll_87 rfl hl (by decide) rfl (fun ls hl => ?_)
        refine lv_iinc (v := (x3 + (1 : Int32))) (lv' := [(3, .int (x3 + (1 : Int32))), (2, .int (1 : Int32)), (7, .int (b2i q9.1)), (6, .int (b2i q7.1)), (5, .int (gi μ 41 x3.toNatClampNeg)), (4, .int (gi μ 40 x3.toNatClampNeg)), (0, .ref (ad 3)), (1, .ref (ad 34))]) hx hb dX6_shortenAll_88 hl (k := 7) rfl rfl (by decide) rfl (fun ls hl => ?_)
        refine lv_goto (tgt := 4) hx hb dX6_shortenAll_91 (by decide) ?_
        exact kc _ (Option.some.inj h).symm hM hS (lv_sub hl [6, 7, 1, 0] rfl)
      · replace h := gif_t c10 h
        refine lv_iload hx hb dX6_shortenAll_72 (lv_at hl 1 rfl) ?_
        refine lv_if_ne (tgt := 82) hx hb dX6_shortenAll_74 (by decide) (fun c11 => ?_) (fun c11 => ?_)
        · replace h := gif_f c11 h
          refine lv_iconst (v := (1 : Int32)) hx hb dX6_shortenAll_82 (by decide) ?_
          refine lv_goto (tgt := 87) hx hb dX6_shortenAll_83 (by decide) ?_
          refine lv_istore_n (lv' := [(2, .int (1 : Int32)), (7, .int (b2i q9.1)), (6, .int (b2i q7.1)), (5, .int (gi μ 41 x3.toNatClampNeg)), (4, .int (gi μ 40 x3.toNatClampNeg)), (0, .ref (ad 3)), (1, .ref (ad 34)), (3, .int x3)]) hx hb dX6_shortenAll_87 rfl hl (by decide) rfl (fun ls hl => ?_)
          refine lv_iinc (v := (x3 + (1 : Int32))) (lv' := [(3, .int (x3 + (1 : Int32))), (2, .int (1 : Int32)), (7, .int (b2i q9.1)), (6, .int (b2i q7.1)), (5, .int (gi μ 41 x3.toNatClampNeg)), (4, .int (gi μ 40 x3.toNatClampNeg)), (0, .ref (ad 3)), (1, .ref (ad 34))]) hx hb dX6_shortenAll_88 hl (k := 7) rfl rfl (by decide) rfl (fun ls hl => ?_)
          refine lv_goto (tgt := 4) hx hb dX6_shortenAll_91 (by decide) ?_
          exact kc _ (Option.some.inj h).symm hM hS (lv_sub hl [6, 7, 1, 0] rfl)
        · replace h := gif_t c11 h
          refine lv_iload hx hb dX6_shortenAll_77 (lv_at hl 0 rfl) ?_
          refine lv_if_eq (tgt := 86) hx hb dX6_shortenAll_79 (by decide) (fun c12 => ?_) (fun c12 => ?_)
          · replace h := gif_t c12 h
            refine lv_iconst (v := (0 : Int32)) hx hb dX6_shortenAll_86 (by decide) ?_
            refine lv_istore_n (lv' := [(2, .int (0 : Int32)), (7, .int (b2i q9.1)), (6, .int (b2i q7.1)), (5, .int (gi μ 41 x3.toNatClampNeg)), (4, .int (gi μ 40 x3.toNatClampNeg)), (0, .ref (ad 3)), (1, .ref (ad 34)), (3, .int x3)]) hx hb dX6_shortenAll_87 rfl hl (by decide) rfl (fun ls hl => ?_)
            refine lv_iinc (v := (x3 + (1 : Int32))) (lv' := [(3, .int (x3 + (1 : Int32))), (2, .int (0 : Int32)), (7, .int (b2i q9.1)), (6, .int (b2i q7.1)), (5, .int (gi μ 41 x3.toNatClampNeg)), (4, .int (gi μ 40 x3.toNatClampNeg)), (0, .ref (ad 3)), (1, .ref (ad 34))]) hx hb dX6_shortenAll_88 hl (k := 7) rfl rfl (by decide) rfl (fun ls hl => ?_)
            refine lv_goto (tgt := 4) hx hb dX6_shortenAll_91 (by decide) ?_
            exact kc _ (Option.some.inj h).symm hM hS (lv_sub hl [6, 7, 1, 0] rfl)
          · replace h := gif_f c12 h
            refine lv_iconst (v := (1 : Int32)) hx hb dX6_shortenAll_82 (by decide) ?_
            refine lv_goto (tgt := 87) hx hb dX6_shortenAll_83 (by decide) ?_
            refine lv_istore_n (lv' := [(2, .int (1 : Int32)), (7, .int (b2i q9.1)), (6, .int (b2i q7.1)), (5, .int (gi μ 41 x3.toNatClampNeg)), (4, .int (gi μ 40 x3.toNatClampNeg)), (0, .ref (ad 3)), (1, .ref (ad 34)), (3, .int x3)]) hx hb dX6_shortenAll_87 rfl hl (by decide) rfl (fun ls hl => ?_)
            refine lv_iinc (v := (x3 + (1 : Int32))) (lv' := [(3, .int (x3 + (1 : Int32))), (2, .int (1 : Int32)), (7, .int (b2i q9.1)), (6, .int (b2i q7.1)), (5, .int (gi μ 41 x3.toNatClampNeg)), (4, .int (gi μ 40 x3.toNatClampNeg)), (0, .ref (ad 3)), (1, .ref (ad 34))]) hx hb dX6_shortenAll_88 hl (k := 7) rfl rfl (by decide) rfl (fun ls hl => ?_)
            refine lv_goto (tgt := 4) hx hb dX6_shortenAll_91 (by decide) ?_
            exact kc _ (Option.some.inj h).symm hM hS (lv_sub hl [6, 7, 1, 0] rfl)
set_option maxHeartbeats 4000000 in
theorem wl_X6_shortenAll_4 {p : Program} {l : Launch} {e : Env} {s : State} {m : MethodId} {args : Array Value} {below : List Frame} {meth : Method} {c : Code} {D : va_G} {cy : Nat → ClassId} {ad : Nat → Nat} {base : gBs}  {r : Int32 × gM} {RES : Bool × gM} (F : gF p s m meth c cX6_shortenAll RX6 8 (some .boolean)) (E : gEnv l D cy ad base s) (kx : ∀ (t : Int32 × gM) {H : Heap} {locs : List Loc} {ls : Array Slot}, r = t → gW gFull D cy ad base t.2 H → va_S (gA base) s.heap H locs → lv_has ls 8 [(2, .int t.1)] → W p l e ({ frames := 1, cells := 0, slots := 0, locals := 24 } : Room) s m args below meth c H locs 0 0 (MQ below (gQ (some (.int (b2i RES.1))) gFull D cy ad base RES.2) args s 0 0 (gA base)) (F0 m 94 ls []))  : ∀ (n : Nat) (x2 : Int32) (x3 : Int32) (μ : gM), gloop (fun t => b_X6_shortenAll_4  t.1 t.2.1 t.2.2) n (x2, x3, μ) = some r → ∀ {H : Heap} {locs : List Loc} {ls : Array Slot}, gW gFull D cy ad base μ H → va_S (gA base) s.heap H locs → lv_has ls 8 [(0, .ref (ad 3)), (1, .ref (ad 34)), (2, .int x2), (3, .int x3)] → W p l e ({ frames := 1, cells := 0, slots := 0, locals := 24 } : Room) s m args below meth c H locs 0 0 (MQ below (gQ (some (.int (b2i RES.1))) gFull D cy ad base RES.2) args s 0 0 (gA base)) (F0 m 4 ls []) := by
  intro n
  induction n with
  | zero =>
    intro x2 x3 μ h
    exact (gloop_0 h).elim
  | succ n ih =>
    intro x2 x3 μ h H locs ls hM hS hl
    obtain ⟨o, h0, hc, hq⟩ := gloop_s h
    have h1 : b_X6_shortenAll_4 x2 x3 μ = some o := h0
    exact wb_X6_shortenAll_4 h1 F E (fun t H locs ls ho hM hS hl => ih t.1 t.2.1 t.2.2 (hc t ho) hM hS hl) (fun t H locs ls ho hM hS hl => kx t (hq _ ho).symm hM hS hl) hM hS hl
def f_X6_shortenAll (μ : gM) : Option (Bool × gM) :=
  Option.bind (gloop (fun t => b_X6_shortenAll_4  t.1 t.2.1 t.2.2) gFuel ((0 : Int32), (0 : Int32), μ)) (fun q13 => Option.bind (i2b q13.1) (fun b14 => some (b14, q13.2)))
set_option maxHeartbeats 4000000 in
set_option maxRecDepth 100000 in
theorem c_X6_shortenAll {l : Launch} {D : va_G} {cy : Nat → ClassId} {ad : Nat → Nat} {base : gBs}  {μ : gM} {RES : Bool × gM} (h : f_X6_shortenAll  μ = some RES) : Met l yX6_shortenAll [.code yX6_shortenAll cX6_shortenAll 8 (some .boolean)] ({ frames := 1, cells := 0, slots := 0, locals := 24 } : Room) (va_Pc [.ref (ad 3), .ref (ad 34)] (gB l gFull D cy ad base μ)) (gQ (some (.int (b2i RES.1))) gFull D cy ad base RES.2) 0 0 (gA base) := by
  refine Met.ofW (cc := cX6_shortenAll) (maxL := 8) (ret := (some .boolean)) (by decide) rfl ?_
  intro p e s m args below meth c s₁ B hml0 hv
  obtain ⟨rfl, E, hM⟩ := hv
  have F : gF p s m meth c cX6_shortenAll RX6 8 (some .boolean) := gF_of B hml0
  obtain ⟨hx, hb, hml, hown, hlocks, hr⟩ := id F
  have hS : va_S (gA base) s.heap s.heap [] := va_S.rf
  have hl := lv_entry ([.ref (ad 3), .ref (ad 34)]) (n := 8) (Nat.le_of_ble_eq_true rfl)
  rw [lg_entry_eq]
  generalize (lg_sl ([.ref (ad 3), .ref (ad 34)]) ++ List.replicate (8 - (lg_sl ([.ref (ad 3), .ref (ad 34)])).length) Slot.unset).toArray = ls at hl ⊢
  have hl : lv_has ls 8 [(0, .ref (ad 3)), (1, .ref (ad 34))] := hl
  unfold f_X6_shortenAll at h
  refine lv_iconst (v := (0 : Int32)) hx hb dX6_shortenAll_0 (by decide) ?_
  refine lv_istore_n (lv' := [(2, .int (0 : Int32)), (0, .ref (ad 3)), (1, .ref (ad 34))]) hx hb dX6_shortenAll_1 rfl hl (by decide) rfl (fun ls hl => ?_)
  refine lv_iconst (v := (0 : Int32)) hx hb dX6_shortenAll_2 (by decide) ?_
  refine lv_istore_n (lv' := [(3, .int (0 : Int32)), (2, .int (0 : Int32)), (0, .ref (ad 3)), (1, .ref (ad 34))]) hx hb dX6_shortenAll_3 rfl hl (by decide) rfl (fun ls hl => ?_)
  obtain ⟨z15, h1, h⟩ := gbind_e h
  refine wl_X6_shortenAll_4 F E (r := z15) (fun q13 H locs ls e1 hM hS hl => ?_) gFuel (0 : Int32) (0 : Int32) μ h1 hM hS (lv_sub hl [2, 3, 1, 0] rfl)
  replace e1 : z15 = q13 := e1
  rw [e1] at h
  refine lv_iload_n hx hb dX6_shortenAll_94 rfl (lv_at hl 0 rfl) ?_
  obtain ⟨b14, hi, h⟩ := gbind_e h
  rw [i2b_e hi]
  obtain rfl := Option.some.inj h
  exact g_zret hx hb hr hlocks (b2i_nar _) hM hS dX6_shortenAll_95
def b_X6_measure_2 (x2 : Int32) (x3 : Int32) (μ : gM) : Option ((Int32 × gM) ⊕ (gM)) :=
  if ((gi μ 34 1) ≤ x3) then some (.inr μ) else gchk (gIn x3 16) (some (.inl ((x3 + (1 : Int32)), (si μ 4 x3.toNatClampNeg (-1 : Int32)))))
set_option maxHeartbeats 4000000 in
set_option maxRecDepth 100000 in
theorem wb_X6_measure_2 {p : Program} {l : Launch} {e : Env} {s : State} {m : MethodId} {args : Array Value} {below : List Frame} {meth : Method} {c : Code} {D : va_G} {cy : Nat → ClassId} {ad : Nat → Nat} {base : gBs} {x2 : Int32} {x3 : Int32} {μ : gM} {o : (Int32 × gM) ⊕ (gM)} {RES : gM} (h : b_X6_measure_2 x2 x3 μ = some o) (F : gF p s m meth c cX6_measure RX6 5 none) (E : gEnv l D cy ad base s) (kc : ∀ (t : Int32 × gM) {H : Heap} {locs : List Loc} {ls : Array Slot}, o = .inl t → gW gFull D cy ad base t.2 H → va_S (gA base) s.heap H locs → lv_has ls 5 [(0, .ref (ad 3)), (1, .ref (ad 34)), (2, .int x2), (3, .int t.1)] → W p l e ({ frames := 2, cells := 0, slots := 0, locals := 51 } : Room) s m args below meth c H locs 0 0 (MQ below (gQ none gFull D cy ad base RES) args s 0 0 (gA base)) (F0 m 2 ls [])) (kx : ∀ (t : gM) {H : Heap} {locs : List Loc} {ls : Array Slot}, o = .inr t → gW gFull D cy ad base t H → va_S (gA base) s.heap H locs → lv_has ls 5 [(0, .ref (ad 3)), (1, .ref (ad 34)), (2, .int x2)] → W p l e ({ frames := 2, cells := 0, slots := 0, locals := 51 } : Room) s m args below meth c H locs 0 0 (MQ below (gQ none gFull D cy ad base RES) args s 0 0 (gA base)) (F0 m 23 ls []))  {H : Heap} {locs : List Loc} {ls : Array Slot} (hM : gW gFull D cy ad base μ H) (hS : va_S (gA base) s.heap H locs) (hl : lv_has ls 5 [(0, .ref (ad 3)), (1, .ref (ad 34)), (2, .int x2), (3, .int x3)]) : W p l e ({ frames := 2, cells := 0, slots := 0, locals := 51 } : Room) s m args below meth c H locs 0 0 (MQ below (gQ none gFull D cy ad base RES) args s 0 0 (gA base)) (F0 m 2 ls []) := by
  obtain ⟨hx, hb, hml, hown, hlocks, hr⟩ := id F
  unfold b_X6_measure_2 at h
  refine lv_iload_n hx hb dX6_measure_2 rfl (lv_at hl 3 rfl) ?_
  refine lv_aload_n hx hb dX6_measure_3 rfl (lv_at hl 1 rfl) ?_
  refine gg_34_1 hx hb hown E hM hk_34 kw_392 dX6_measure_4 ?_
  refine lv_icmp_ge (tgt := 23) hx hb dX6_measure_7 (by decide) (fun c1 => ?_) (fun c1 => ?_)
  · replace h := gif_t c1 h
    exact kx _ (Option.some.inj h).symm hM hS (lv_sub hl [0, 1, 2] rfl)
  · replace h := gif_f c1 h
    refine lv_aload_n hx hb dX6_measure_10 rfl (lv_at hl 0 rfl) ?_
    refine gg_3_0 hx hb hown E hM hk_3 kw_214 dX6_measure_11 ?_
    refine lv_iload_n hx hb dX6_measure_14 rfl (lv_at hl 3 rfl) ?_
    refine lv_iconst (v := (-1 : Int32)) hx hb dX6_measure_15 (by decide) ?_
    obtain ⟨c2, h⟩ := gchk_e h
    refine g_iast hx hb E hM hS hk_4 dd_4 c2 dX6_measure_16 (fun H locs hM hS => ?_)
    refine lv_iinc (v := (x3 + (1 : Int32))) (lv' := [(3, .int (x3 + (1 : Int32))), (0, .ref (ad 3)), (1, .ref (ad 34)), (2, .int x2)]) hx hb dX6_measure_17 hl (k := 3) rfl rfl (by decide) rfl (fun ls hl => ?_)
    refine lv_goto (tgt := 2) hx hb dX6_measure_20 (by decide) ?_
    exact kc _ (Option.some.inj h).symm hM hS (lv_sub hl [1, 2, 3, 0] rfl)
set_option maxHeartbeats 4000000 in
theorem wl_X6_measure_2 {p : Program} {l : Launch} {e : Env} {s : State} {m : MethodId} {args : Array Value} {below : List Frame} {meth : Method} {c : Code} {D : va_G} {cy : Nat → ClassId} {ad : Nat → Nat} {base : gBs} {x2 : Int32} {r : gM} {RES : gM} (F : gF p s m meth c cX6_measure RX6 5 none) (E : gEnv l D cy ad base s) (kx : ∀ (t : gM) {H : Heap} {locs : List Loc} {ls : Array Slot}, r = t → gW gFull D cy ad base t H → va_S (gA base) s.heap H locs → lv_has ls 5 [(0, .ref (ad 3)), (1, .ref (ad 34)), (2, .int x2)] → W p l e ({ frames := 2, cells := 0, slots := 0, locals := 51 } : Room) s m args below meth c H locs 0 0 (MQ below (gQ none gFull D cy ad base RES) args s 0 0 (gA base)) (F0 m 23 ls []))  : ∀ (n : Nat) (x3 : Int32) (μ : gM), gloop (fun t => b_X6_measure_2 x2 t.1 t.2) n (x3, μ) = some r → ∀ {H : Heap} {locs : List Loc} {ls : Array Slot}, gW gFull D cy ad base μ H → va_S (gA base) s.heap H locs → lv_has ls 5 [(0, .ref (ad 3)), (1, .ref (ad 34)), (2, .int x2), (3, .int x3)] → W p l e ({ frames := 2, cells := 0, slots := 0, locals := 51 } : Room) s m args below meth c H locs 0 0 (MQ below (gQ none gFull D cy ad base RES) args s 0 0 (gA base)) (F0 m 2 ls []) := by
  intro n
  induction n with
  | zero =>
    intro x3 μ h
    exact (gloop_0 h).elim
  | succ n ih =>
    intro x3 μ h H locs ls hM hS hl
    obtain ⟨o, h0, hc, hq⟩ := gloop_s h
    have h1 : b_X6_measure_2 x2 x3 μ = some o := h0
    exact wb_X6_measure_2 h1 F E (fun t H locs ls ho hM hS hl => ih t.1 t.2 (hc t ho) hM hS hl) (fun t H locs ls ho hM hS hl => kx t (hq _ ho).symm hM hS hl) hM hS hl
def b_X6_measure_25 (x2 : Int32) (x3 : Int32) (μ : gM) : Option ((Int32 × gM) ⊕ (gM)) :=
  if ((gi μ 34 2) ≤ x3) then some (.inr μ) else Option.bind (f_X3_lineLength x3 μ) (fun q5 => gchk (gIn x3 20) (some (.inl ((x3 + (1 : Int32)), (si μ 5 x3.toNatClampNeg q5)))))
set_option maxHeartbeats 4000000 in
set_option maxRecDepth 100000 in
theorem wb_X6_measure_25 {p : Program} {l : Launch} {e : Env} {s : State} {m : MethodId} {args : Array Value} {below : List Frame} {meth : Method} {c : Code} {D : va_G} {cy : Nat → ClassId} {ad : Nat → Nat} {base : gBs} {x2 : Int32} {x3 : Int32} {μ : gM} {o : (Int32 × gM) ⊕ (gM)} {RES : gM} (h : b_X6_measure_25 x2 x3 μ = some o) (F : gF p s m meth c cX6_measure RX6 5 none) (E : gEnv l D cy ad base s) (kc : ∀ (t : Int32 × gM) {H : Heap} {locs : List Loc} {ls : Array Slot}, o = .inl t → gW gFull D cy ad base t.2 H → va_S (gA base) s.heap H locs → lv_has ls 5 [(0, .ref (ad 3)), (1, .ref (ad 34)), (2, .int x2), (3, .int t.1)] → W p l e ({ frames := 2, cells := 0, slots := 0, locals := 51 } : Room) s m args below meth c H locs 0 0 (MQ below (gQ none gFull D cy ad base RES) args s 0 0 (gA base)) (F0 m 25 ls [])) (kx : ∀ (t : gM) {H : Heap} {locs : List Loc} {ls : Array Slot}, o = .inr t → gW gFull D cy ad base t H → va_S (gA base) s.heap H locs → lv_has ls 5 [(0, .ref (ad 3)), (1, .ref (ad 34)), (2, .int x2)] → W p l e ({ frames := 2, cells := 0, slots := 0, locals := 51 } : Room) s m args below meth c H locs 0 0 (MQ below (gQ none gFull D cy ad base RES) args s 0 0 (gA base)) (F0 m 50 ls []))  {H : Heap} {locs : List Loc} {ls : Array Slot} (hM : gW gFull D cy ad base μ H) (hS : va_S (gA base) s.heap H locs) (hl : lv_has ls 5 [(0, .ref (ad 3)), (1, .ref (ad 34)), (2, .int x2), (3, .int x3)]) : W p l e ({ frames := 2, cells := 0, slots := 0, locals := 51 } : Room) s m args below meth c H locs 0 0 (MQ below (gQ none gFull D cy ad base RES) args s 0 0 (gA base)) (F0 m 25 ls []) := by
  obtain ⟨hx, hb, hml, hown, hlocks, hr⟩ := id F
  unfold b_X6_measure_25 at h
  refine lv_iload_n hx hb dX6_measure_25 rfl (lv_at hl 3 rfl) ?_
  refine lv_aload_n hx hb dX6_measure_26 rfl (lv_at hl 1 rfl) ?_
  refine gg_34_2 hx hb hown E hM hk_34 kw_399 dX6_measure_27 ?_
  refine lv_icmp_ge (tgt := 50) hx hb dX6_measure_30 (by decide) (fun c4 => ?_) (fun c4 => ?_)
  · replace h := gif_t c4 h
    exact kx _ (Option.some.inj h).symm hM hS (lv_sub hl [0, 1, 2] rfl)
  · replace h := gif_f c4 h
    refine lv_aload_n hx hb dX6_measure_33 rfl (lv_at hl 0 rfl) ?_
    refine gg_3_1 hx hb hown E hM hk_3 kw_216 dX6_measure_34 ?_
    refine lv_iload_n hx hb dX6_measure_37 rfl (lv_at hl 3 rfl) ?_
    refine lv_aload_n hx hb dX6_measure_38 rfl (lv_at hl 1 rfl) ?_
    refine lv_iload_n hx hb dX6_measure_39 rfl (lv_at hl 3 rfl) ?_
    obtain ⟨q5, hq5, h⟩ := gbind_e h
    refine g_callV (As := [.int x3]) (rest := [.int x3, .ref (ad 5)]) hx hb (hml.trans hl.1.symm) hown E hM hS hy_X3_lineLength kw_1257 (c_X3_lineLength hq5) hk_34 dd_34 rfl rfl rfl (Nat.le_of_ble_eq_true rfl) ⟨Nat.le_of_ble_eq_true rfl, Nat.le_of_ble_eq_true rfl⟩ ⟨Nat.le_of_ble_eq_true rfl, Nat.le_of_ble_eq_true rfl⟩ dX6_measure_40 (fun H locs hM hS => ?_)
    obtain ⟨c6, h⟩ := gchk_e h
    refine g_iast hx hb E hM hS hk_5 dd_5 c6 dX6_measure_43 (fun H locs hM hS => ?_)
    refine lv_iinc (v := (x3 + (1 : Int32))) (lv' := [(3, .int (x3 + (1 : Int32))), (0, .ref (ad 3)), (1, .ref (ad 34)), (2, .int x2)]) hx hb dX6_measure_44 hl (k := 3) rfl rfl (by decide) rfl (fun ls hl => ?_)
    refine lv_goto (tgt := 25) hx hb dX6_measure_47 (by decide) ?_
    exact kc _ (Option.some.inj h).symm hM hS (lv_sub hl [1, 2, 3, 0] rfl)
set_option maxHeartbeats 4000000 in
theorem wl_X6_measure_25 {p : Program} {l : Launch} {e : Env} {s : State} {m : MethodId} {args : Array Value} {below : List Frame} {meth : Method} {c : Code} {D : va_G} {cy : Nat → ClassId} {ad : Nat → Nat} {base : gBs} {x2 : Int32} {r : gM} {RES : gM} (F : gF p s m meth c cX6_measure RX6 5 none) (E : gEnv l D cy ad base s) (kx : ∀ (t : gM) {H : Heap} {locs : List Loc} {ls : Array Slot}, r = t → gW gFull D cy ad base t H → va_S (gA base) s.heap H locs → lv_has ls 5 [(0, .ref (ad 3)), (1, .ref (ad 34)), (2, .int x2)] → W p l e ({ frames := 2, cells := 0, slots := 0, locals := 51 } : Room) s m args below meth c H locs 0 0 (MQ below (gQ none gFull D cy ad base RES) args s 0 0 (gA base)) (F0 m 50 ls []))  : ∀ (n : Nat) (x3 : Int32) (μ : gM), gloop (fun t => b_X6_measure_25 x2 t.1 t.2) n (x3, μ) = some r → ∀ {H : Heap} {locs : List Loc} {ls : Array Slot}, gW gFull D cy ad base μ H → va_S (gA base) s.heap H locs → lv_has ls 5 [(0, .ref (ad 3)), (1, .ref (ad 34)), (2, .int x2), (3, .int x3)] → W p l e ({ frames := 2, cells := 0, slots := 0, locals := 51 } : Room) s m args below meth c H locs 0 0 (MQ below (gQ none gFull D cy ad base RES) args s 0 0 (gA base)) (F0 m 25 ls []) := by
  intro n
  induction n with
  | zero =>
    intro x3 μ h
    exact (gloop_0 h).elim
  | succ n ih =>
    intro x3 μ h H locs ls hM hS hl
    obtain ⟨o, h0, hc, hq⟩ := gloop_s h
    have h1 : b_X6_measure_25 x2 x3 μ = some o := h0
    exact wb_X6_measure_25 h1 F E (fun t H locs ls ho hM hS hl => ih t.1 t.2 (hc t ho) hM hS hl) (fun t H locs ls ho hM hS hl => kx t (hq _ ho).symm hM hS hl) hM hS hl
def b_X6_measure_62 (x3 : Int32) (x4 : Int32) (μ : gM) : Option ((Int32 × Int32 × gM) ⊕ (gM)) :=
  if ((gi μ 34 1) ≤ x4) then some (.inr μ) else if (x3 = 0) then some (.inr μ) else Option.bind (f_X6_shortenAll  μ) (fun q11 => some (.inl ((b2i q11.1), (x4 + (1 : Int32)), q11.2)))
set_option maxHeartbeats 4000000 in
set_option maxRecDepth 100000 in
theorem wb_X6_measure_62 {p : Program} {l : Launch} {e : Env} {s : State} {m : MethodId} {args : Array Value} {below : List Frame} {meth : Method} {c : Code} {D : va_G} {cy : Nat → ClassId} {ad : Nat → Nat} {base : gBs} {x3 : Int32} {x4 : Int32} {μ : gM} {o : (Int32 × Int32 × gM) ⊕ (gM)} {RES : gM} (h : b_X6_measure_62 x3 x4 μ = some o) (F : gF p s m meth c cX6_measure RX6 5 none) (E : gEnv l D cy ad base s) (kc : ∀ (t : Int32 × Int32 × gM) {H : Heap} {locs : List Loc} {ls : Array Slot}, o = .inl t → gW gFull D cy ad base t.2.2 H → va_S (gA base) s.heap H locs → lv_has ls 5 [(0, .ref (ad 3)), (1, .ref (ad 34)), (3, .int t.1), (4, .int t.2.1)] → W p l e ({ frames := 2, cells := 0, slots := 0, locals := 51 } : Room) s m args below meth c H locs 0 0 (MQ below (gQ none gFull D cy ad base RES) args s 0 0 (gA base)) (F0 m 62 ls [])) (kx : ∀ (t : gM) {H : Heap} {locs : List Loc} {ls : Array Slot}, o = .inr t → gW gFull D cy ad base t H → va_S (gA base) s.heap H locs → lv_has ls 5 [] → W p l e ({ frames := 2, cells := 0, slots := 0, locals := 51 } : Room) s m args below meth c H locs 0 0 (MQ below (gQ none gFull D cy ad base RES) args s 0 0 (gA base)) (F0 m 87 ls []))  {H : Heap} {locs : List Loc} {ls : Array Slot} (hM : gW gFull D cy ad base μ H) (hS : va_S (gA base) s.heap H locs) (hl : lv_has ls 5 [(0, .ref (ad 3)), (1, .ref (ad 34)), (3, .int x3), (4, .int x4)]) : W p l e ({ frames := 2, cells := 0, slots := 0, locals := 51 } : Room) s m args below meth c H locs 0 0 (MQ below (gQ none gFull D cy ad base RES) args s 0 0 (gA base)) (F0 m 62 ls []) := by
  obtain ⟨hx, hb, hml, hown, hlocks, hr⟩ := id F
  unfold b_X6_measure_62 at h
  refine lv_iload hx hb dX6_measure_62 (lv_at hl 3 rfl) ?_
  refine lv_aload_n hx hb dX6_measure_64 rfl (lv_at hl 1 rfl) ?_
  refine gg_34_1 hx hb hown E hM hk_34 kw_392 dX6_measure_65 ?_
  refine lv_icmp_ge (tgt := 87) hx hb dX6_measure_68 (by decide) (fun c9 => ?_) (fun c9 => ?_)
  · replace h := gif_t c9 h
    exact kx _ (Option.some.inj h).symm hM hS (lv_sub hl [] rfl)
  · replace h := gif_f c9 h
    refine lv_iload_n hx hb dX6_measure_71 rfl (lv_at hl 2 rfl) ?_
    refine lv_if_eq (tgt := 87) hx hb dX6_measure_72 (by decide) (fun c10 => ?_) (fun c10 => ?_)
    · replace h := gif_t c10 h
      exact kx _ (Option.some.inj h).symm hM hS (lv_sub hl [] rfl)
    · replace h := gif_f c10 h
      refine lv_aload_n hx hb dX6_measure_75 rfl (lv_at hl 0 rfl) ?_
      refine lv_aload_n hx hb dX6_measure_76 rfl (lv_at hl 1 rfl) ?_
      obtain ⟨q11, hq11, h⟩ := gbind_e h
      refine g_callV (As := [.ref (ad 34)]) (rest := []) hx hb (hml.trans hl.1.symm) hown E hM hS hy_X6_shortenAll kw_1258 (c_X6_shortenAll hq11) hk_3 dd_3 rfl rfl rfl (Nat.le_of_ble_eq_true rfl) ⟨Nat.le_of_ble_eq_true rfl, Nat.le_of_ble_eq_true rfl⟩ ⟨Nat.le_of_ble_eq_true rfl, Nat.le_of_ble_eq_true rfl⟩ dX6_measure_77 (fun H locs hM hS => ?_)
      refine lv_istore_n (lv' := [(3, .int (b2i q11.1)), (0, .ref (ad 3)), (1, .ref (ad 34)), (4, .int x4)]) hx hb dX6_measure_80 rfl hl (by decide) rfl (fun ls hl => ?_)
      refine lv_iinc (v := (x4 + (1 : Int32))) (lv' := [(4, .int (x4 + (1 : Int32))), (3, .int (b2i q11.1)), (0, .ref (ad 3)), (1, .ref (ad 34))]) hx hb dX6_measure_81 hl (k := 3) rfl rfl (by decide) rfl (fun ls hl => ?_)
      refine lv_goto (tgt := 62) hx hb dX6_measure_84 (by decide) ?_
      exact kc _ (Option.some.inj h).symm hM hS (lv_sub hl [2, 3, 1, 0] rfl)
set_option maxHeartbeats 4000000 in
theorem wl_X6_measure_62 {p : Program} {l : Launch} {e : Env} {s : State} {m : MethodId} {args : Array Value} {below : List Frame} {meth : Method} {c : Code} {D : va_G} {cy : Nat → ClassId} {ad : Nat → Nat} {base : gBs}  {r : gM} {RES : gM} (F : gF p s m meth c cX6_measure RX6 5 none) (E : gEnv l D cy ad base s) (kx : ∀ (t : gM) {H : Heap} {locs : List Loc} {ls : Array Slot}, r = t → gW gFull D cy ad base t H → va_S (gA base) s.heap H locs → lv_has ls 5 [] → W p l e ({ frames := 2, cells := 0, slots := 0, locals := 51 } : Room) s m args below meth c H locs 0 0 (MQ below (gQ none gFull D cy ad base RES) args s 0 0 (gA base)) (F0 m 87 ls []))  : ∀ (n : Nat) (x3 : Int32) (x4 : Int32) (μ : gM), gloop (fun t => b_X6_measure_62  t.1 t.2.1 t.2.2) n (x3, x4, μ) = some r → ∀ {H : Heap} {locs : List Loc} {ls : Array Slot}, gW gFull D cy ad base μ H → va_S (gA base) s.heap H locs → lv_has ls 5 [(0, .ref (ad 3)), (1, .ref (ad 34)), (3, .int x3), (4, .int x4)] → W p l e ({ frames := 2, cells := 0, slots := 0, locals := 51 } : Room) s m args below meth c H locs 0 0 (MQ below (gQ none gFull D cy ad base RES) args s 0 0 (gA base)) (F0 m 62 ls []) := by
  intro n
  induction n with
  | zero =>
    intro x3 x4 μ h
    exact (gloop_0 h).elim
  | succ n ih =>
    intro x3 x4 μ h H locs ls hM hS hl
    obtain ⟨o, h0, hc, hq⟩ := gloop_s h
    have h1 : b_X6_measure_62 x3 x4 μ = some o := h0
    exact wb_X6_measure_62 h1 F E (fun t H locs ls ho hM hS hl => ih t.1 t.2.1 t.2.2 (hc t ho) hM hS hl) (fun t H locs ls ho hM hS hl => kx t (hq _ ho).symm hM hS hl) hM hS hl
def f_X6_measure (p2 : Int32) (μ : gM) : Option (gM) :=
  Option.bind (gloop (fun t => b_X6_measure_2 p2 t.1 t.2) gFuel ((0 : Int32), μ)) (fun q3 => Option.bind (gloop (fun t => b_X6_measure_25 p2 t.1 t.2) gFuel ((0 : Int32), q3)) (fun q7 => gchk (gIn p2 16) (Option.bind (gloop (fun t => b_X6_measure_62  t.1 t.2.1 t.2.2) gFuel ((1 : Int32), (0 : Int32), (si q7 4 p2.toNatClampNeg (0 : Int32)))) (fun q12 => some q12))))
set_option maxHeartbeats 4000000 in
set_option maxRecDepth 100000 in
theorem c_X6_measure {l : Launch} {D : va_G} {cy : Nat → ClassId} {ad : Nat → Nat} {base : gBs} {p2 : Int32} {μ : gM} {RES : gM} (h : f_X6_measure p2 μ = some RES) : Met l yX6_measure [.code yX6_measure cX6_measure 5 none] ({ frames := 2, cells := 0, slots := 0, locals := 51 } : Room) (va_Pc [.ref (ad 3), .ref (ad 34), .int p2] (gB l gFull D cy ad base μ)) (gQ none gFull D cy ad base RES) 0 0 (gA base) := by
  refine Met.ofW (cc := cX6_measure) (maxL := 5) (ret := none) (by decide) rfl ?_
  intro p e s m args below meth c s₁ B hml0 hv
  obtain ⟨rfl, E, hM⟩ := hv
  have F : gF p s m meth c cX6_measure RX6 5 none := gF_of B hml0
  obtain ⟨hx, hb, hml, hown, hlocks, hr⟩ := id F
  have hS : va_S (gA base) s.heap s.heap [] := va_S.rf
  have hl := lv_entry ([.ref (ad 3), .ref (ad 34), .int p2]) (n := 5) (Nat.le_of_ble_eq_true rfl)
  rw [lg_entry_eq]
  generalize (lg_sl ([.ref (ad 3), .ref (ad 34), .int p2]) ++ List.replicate (5 - (lg_sl ([.ref (ad 3), .ref (ad 34), .int p2])).length) Slot.unset).toArray = ls at hl ⊢
  have hl : lv_has ls 5 [(0, .ref (ad 3)), (1, .ref (ad 34)), (2, .int p2)] := hl
  unfold f_X6_measure at h
  refine lv_iconst (v := (0 : Int32)) hx hb dX6_measure_0 (by decide) ?_
  refine lv_istore_n (lv' := [(3, .int (0 : Int32)), (0, .ref (ad 3)), (1, .ref (ad 34)), (2, .int p2)]) hx hb dX6_measure_1 rfl hl (by decide) rfl (fun ls hl => ?_)
  obtain ⟨z15, h1, h⟩ := gbind_e h
  refine wl_X6_measure_2 F E (r := z15) (fun q3 H locs ls e1 hM hS hl => ?_) gFuel (0 : Int32) μ h1 hM hS (lv_sub hl [1, 2, 3, 0] rfl)
  replace e1 : z15 = q3 := e1
  rw [e1] at h
  refine lv_iconst (v := (0 : Int32)) hx hb dX6_measure_23 (by decide) ?_
  refine lv_istore_n (lv' := [(3, .int (0 : Int32)), (0, .ref (ad 3)), (1, .ref (ad 34)), (2, .int p2)]) hx hb dX6_measure_24 rfl hl (by decide) rfl (fun ls hl => ?_)
  obtain ⟨z14, h1, h⟩ := gbind_e h
  refine wl_X6_measure_25 F E (r := z14) (fun q7 H locs ls e1 hM hS hl => ?_) gFuel (0 : Int32) q3 h1 hM hS (lv_sub hl [1, 2, 3, 0] rfl)
  replace e1 : z14 = q7 := e1
  rw [e1] at h
  refine lv_aload_n hx hb dX6_measure_50 rfl (lv_at hl 0 rfl) ?_
  refine gg_3_0 hx hb hown E hM hk_3 kw_214 dX6_measure_51 ?_
  refine lv_iload_n hx hb dX6_measure_54 rfl (lv_at hl 2 rfl) ?_
  refine lv_iconst (v := (0 : Int32)) hx hb dX6_measure_55 (by decide) ?_
  obtain ⟨c8, h⟩ := gchk_e h
  refine g_iast hx hb E hM hS hk_4 dd_4 c8 dX6_measure_56 (fun H locs hM hS => ?_)
  refine lv_iconst (v := (1 : Int32)) hx hb dX6_measure_57 (by decide) ?_
  refine lv_istore_n (lv' := [(3, .int (1 : Int32)), (0, .ref (ad 3)), (1, .ref (ad 34)), (2, .int p2)]) hx hb dX6_measure_58 rfl hl (by decide) rfl (fun ls hl => ?_)
  refine lv_iconst (v := (0 : Int32)) hx hb dX6_measure_59 (by decide) ?_
  refine lv_istore (lv' := [(4, .int (0 : Int32)), (3, .int (1 : Int32)), (0, .ref (ad 3)), (1, .ref (ad 34)), (2, .int p2)]) hx hb dX6_measure_60 hl (by decide) rfl (fun ls hl => ?_)
  obtain ⟨z13, h1, h⟩ := gbind_e h
  refine wl_X6_measure_62 F E (r := z13) (fun q12 H locs ls e1 hM hS hl => ?_) gFuel (1 : Int32) (0 : Int32) (si q7 4 p2.toNatClampNeg (0 : Int32)) h1 hM hS (lv_sub hl [2, 3, 1, 0] rfl)
  replace e1 : z13 = q12 := e1
  rw [e1] at h
  obtain rfl := Option.some.inj h
  exact g_vret hx hb hr hlocks hM hS dX6_measure_87
def b_X6_lineBack_2 (x2 : Int32) (x3 : Int32) (μ : gM) : Option ((Int32) ⊕ ((Unit) ⊕ (Int32))) :=
  if ((gi μ 34 2) ≤ x3) then some (.inr (.inl ())) else Option.bind (f_X3_across (gi μ 34 4) x3 x2 μ) (fun q2 => if (q2 = (-1 : Int32)) then some (.inl (x3 + (1 : Int32))) else gchk (gIn q2 16) (if ((gi μ 4 q2.toNatClampNeg) = (-1 : Int32)) then some (.inl (x3 + (1 : Int32))) else gchk (gIn q2 16) (gchk (gIn x2 16) (gchk (gIn x3 20) (if ((gi μ 4 q2.toNatClampNeg) = ((gi μ 4 x2.toNatClampNeg) - (gi μ 5 x3.toNatClampNeg))) then some (.inr (.inr x3)) else some (.inl (x3 + (1 : Int32))))))))
set_option maxHeartbeats 4000000 in
set_option maxRecDepth 100000 in
theorem wb_X6_lineBack_2 {p : Program} {l : Launch} {e : Env} {s : State} {m : MethodId} {args : Array Value} {below : List Frame} {meth : Method} {c : Code} {D : va_G} {cy : Nat → ClassId} {ad : Nat → Nat} {base : gBs} {x2 : Int32} {x3 : Int32} {μ : gM} {o : (Int32) ⊕ ((Unit) ⊕ (Int32))} {RES : Int32} (h : b_X6_lineBack_2 x2 x3 μ = some o) (F : gF p s m meth c cX6_lineBack RX6 5 (some .int)) (E : gEnv l D cy ad base s) (kc : ∀ (t : Int32) {H : Heap} {locs : List Loc} {ls : Array Slot}, o = .inl t → gW gFull D cy ad base μ H → va_S (gA base) s.heap H locs → lv_has ls 5 [(0, .ref (ad 3)), (1, .ref (ad 34)), (2, .int x2), (3, .int t)] → W p l e ({ frames := 1, cells := 0, slots := 0, locals := 23 } : Room) s m args below meth c H locs 0 0 (MQ below (gQ (some (.int RES)) gFull D cy ad base μ) args s 0 0 (gA base)) (F0 m 2 ls [])) (kx : ∀ (t : Unit) {H : Heap} {locs : List Loc} {ls : Array Slot}, o = .inr (.inl t) → gW gFull D cy ad base μ H → va_S (gA base) s.heap H locs → lv_has ls 5 [] → W p l e ({ frames := 1, cells := 0, slots := 0, locals := 23 } : Room) s m args below meth c H locs 0 0 (MQ below (gQ (some (.int RES)) gFull D cy ad base μ) args s 0 0 (gA base)) (F0 m 70 ls [])) (kr : ∀ x : Int32, o = .inr (.inr x) → x = RES) {H : Heap} {locs : List Loc} {ls : Array Slot} (hM : gW gFull D cy ad base μ H) (hS : va_S (gA base) s.heap H locs) (hl : lv_has ls 5 [(0, .ref (ad 3)), (1, .ref (ad 34)), (2, .int x2), (3, .int x3)]) : W p l e ({ frames := 1, cells := 0, slots := 0, locals := 23 } : Room) s m args below meth c H locs 0 0 (MQ below (gQ (some (.int RES)) gFull D cy ad base μ) args s 0 0 (gA base)) (F0 m 2 ls []) := by
  obtain ⟨hx, hb, hml, hown, hlocks, hr⟩ := id F
  unfold b_X6_lineBack_2 at h
  refine lv_iload_n hx hb dX6_lineBack_2 rfl (lv_at hl 3 rfl) ?_
  refine lv_aload_n hx hb dX6_lineBack_3 rfl (lv_at hl 1 rfl) ?_
  refine gg_34_2 hx hb hown E hM hk_34 kw_399 dX6_lineBack_4 ?_
  refine lv_icmp_ge (tgt := 70) hx hb dX6_lineBack_7 (by decide) (fun c1 => ?_) (fun c1 => ?_)
  · replace h := gif_t c1 h
    exact kx _ (Option.some.inj h).symm hM hS (lv_sub hl [] rfl)
  · replace h := gif_f c1 h
    refine lv_aload_n hx hb dX6_lineBack_10 rfl (lv_at hl 1 rfl) ?_
    refine lv_aload_n hx hb dX6_lineBack_11 rfl (lv_at hl 1 rfl) ?_
    refine gg_34_4 hx hb hown E hM hk_34 kw_409 dX6_lineBack_12 ?_
    refine lv_iload_n hx hb dX6_lineBack_15 rfl (lv_at hl 3 rfl) ?_
    refine lv_iload_n hx hb dX6_lineBack_16 rfl (lv_at hl 2 rfl) ?_
    obtain ⟨q2, hq2, h⟩ := gbind_e h
    refine g_callV (As := [.int (gi μ 34 4), .int x3, .int x2]) (rest := []) hx hb (hml.trans hl.1.symm) hown E hM hS hy_X3_across kw_1284 (c_X3_across hq2) hk_34 dd_34 rfl rfl rfl (Nat.le_of_ble_eq_true rfl) ⟨Nat.le_of_ble_eq_true rfl, Nat.le_of_ble_eq_true rfl⟩ ⟨Nat.le_of_ble_eq_true rfl, Nat.le_of_ble_eq_true rfl⟩ dX6_lineBack_17 (fun H locs hM hS => ?_)
    refine lv_istore (lv' := [(4, .int q2), (0, .ref (ad 3)), (1, .ref (ad 34)), (2, .int x2), (3, .int x3)]) hx hb dX6_lineBack_20 hl (by decide) rfl (fun ls hl => ?_)
    refine lv_iload hx hb dX6_lineBack_22 (lv_at hl 0 rfl) ?_
    refine lv_iconst (v := (-1 : Int32)) hx hb dX6_lineBack_24 (by decide) ?_
    refine lv_icmp_eq (tgt := 64) hx hb dX6_lineBack_25 (by decide) (fun c3 => ?_) (fun c3 => ?_)
    · replace h := gif_t c3 h
      refine lv_iinc (v := (x3 + (1 : Int32))) (lv' := [(3, .int (x3 + (1 : Int32))), (4, .int q2), (0, .ref (ad 3)), (1, .ref (ad 34)), (2, .int x2)]) hx hb dX6_lineBack_64 hl (k := 4) rfl rfl (by decide) rfl (fun ls hl => ?_)
      refine lv_goto (tgt := 2) hx hb dX6_lineBack_67 (by decide) ?_
      exact kc _ (Option.some.inj h).symm hM hS (lv_sub hl [2, 3, 4, 0] rfl)
    · replace h := gif_f c3 h
      refine lv_aload_n hx hb dX6_lineBack_28 rfl (lv_at hl 1 rfl) ?_
      refine gg_3_0 hx hb hown E hM hk_3 kw_214 dX6_lineBack_29 ?_
      refine lv_iload hx hb dX6_lineBack_32 (lv_at hl 0 rfl) ?_
      obtain ⟨c4, h⟩ := gchk_e h
      refine g_iald hx hb E hM hk_4 dd_4 c4 dX6_lineBack_34 ?_
      refine lv_iconst (v := (-1 : Int32)) hx hb dX6_lineBack_35 (by decide) ?_
      refine lv_icmp_eq (tgt := 64) hx hb dX6_lineBack_36 (by decide) (fun c5 => ?_) (fun c5 => ?_)
      · replace h := gif_t c5 h
        refine lv_iinc (v := (x3 + (1 : Int32))) (lv' := [(3, .int (x3 + (1 : Int32))), (4, .int q2), (0, .ref (ad 3)), (1, .ref (ad 34)), (2, .int x2)]) hx hb dX6_lineBack_64 hl (k := 4) rfl rfl (by decide) rfl (fun ls hl => ?_)
        refine lv_goto (tgt := 2) hx hb dX6_lineBack_67 (by decide) ?_
        exact kc _ (Option.some.inj h).symm hM hS (lv_sub hl [2, 3, 4, 0] rfl)
      · replace h := gif_f c5 h
        refine lv_aload_n hx hb dX6_lineBack_39 rfl (lv_at hl 1 rfl) ?_
        refine gg_3_0 hx hb hown E hM hk_3 kw_214 dX6_lineBack_40 ?_
        refine lv_iload hx hb dX6_lineBack_43 (lv_at hl 0 rfl) ?_
        obtain ⟨c6, h⟩ := gchk_e h
        refine g_iald hx hb E hM hk_4 dd_4 c6 dX6_lineBack_45 ?_
        refine lv_aload_n hx hb dX6_lineBack_46 rfl (lv_at hl 1 rfl) ?_
        refine gg_3_0 hx hb hown E hM hk_3 kw_214 dX6_lineBack_47 ?_
        refine lv_iload_n hx hb dX6_lineBack_50 rfl (lv_at hl 3 rfl) ?_
        obtain ⟨c7, h⟩ := gchk_e h
        refine g_iald hx hb E hM hk_4 dd_4 c7 dX6_lineBack_51 ?_
        refine lv_aload_n hx hb dX6_lineBack_52 rfl (lv_at hl 1 rfl) ?_
        refine gg_3_1 hx hb hown E hM hk_3 kw_216 dX6_lineBack_53 ?_
        refine lv_iload_n hx hb dX6_lineBack_56 rfl (lv_at hl 4 rfl) ?_
        obtain ⟨c8, h⟩ := gchk_e h
        refine g_iald hx hb E hM hk_5 dd_5 c8 dX6_lineBack_57 ?_
        refine lv_isub hx hb dX6_lineBack_58 ?_
        refine lv_icmp_ne (tgt := 64) hx hb dX6_lineBack_59 (by decide) (fun c9 => ?_) (fun c9 => ?_)
        · replace h := gif_f c9 h
          refine lv_iinc (v := (x3 + (1 : Int32))) (lv' := [(3, .int (x3 + (1 : Int32))), (4, .int q2), (0, .ref (ad 3)), (1, .ref (ad 34)), (2, .int x2)]) hx hb dX6_lineBack_64 hl (k := 4) rfl rfl (by decide) rfl (fun ls hl => ?_)
          refine lv_goto (tgt := 2) hx hb dX6_lineBack_67 (by decide) ?_
          exact kc _ (Option.some.inj h).symm hM hS (lv_sub hl [2, 3, 4, 0] rfl)
        · replace h := gif_t c9 h
          refine lv_iload_n hx hb dX6_lineBack_62 rfl (lv_at hl 4 rfl) ?_
          obtain rfl := kr _ (Option.some.inj h).symm
          exact g_iret hx hb hr hlocks hM hS dX6_lineBack_63
set_option maxHeartbeats 4000000 in
theorem wl_X6_lineBack_2 {p : Program} {l : Launch} {e : Env} {s : State} {m : MethodId} {args : Array Value} {below : List Frame} {meth : Method} {c : Code} {D : va_G} {cy : Nat → ClassId} {ad : Nat → Nat} {base : gBs} {x2 : Int32} {μ : gM} {r : (Unit) ⊕ (Int32)} {RES : Int32} (F : gF p s m meth c cX6_lineBack RX6 5 (some .int)) (E : gEnv l D cy ad base s) (kx : ∀ (t : Unit) {H : Heap} {locs : List Loc} {ls : Array Slot}, r = .inl t → gW gFull D cy ad base μ H → va_S (gA base) s.heap H locs → lv_has ls 5 [] → W p l e ({ frames := 1, cells := 0, slots := 0, locals := 23 } : Room) s m args below meth c H locs 0 0 (MQ below (gQ (some (.int RES)) gFull D cy ad base μ) args s 0 0 (gA base)) (F0 m 70 ls [])) (kr : ∀ x : Int32, r = .inr x → x = RES) : ∀ (n : Nat) (x3 : Int32), gloop (fun t => b_X6_lineBack_2 x2 t μ) n x3 = some r → ∀ {H : Heap} {locs : List Loc} {ls : Array Slot}, gW gFull D cy ad base μ H → va_S (gA base) s.heap H locs → lv_has ls 5 [(0, .ref (ad 3)), (1, .ref (ad 34)), (2, .int x2), (3, .int x3)] → W p l e ({ frames := 1, cells := 0, slots := 0, locals := 23 } : Room) s m args below meth c H locs 0 0 (MQ below (gQ (some (.int RES)) gFull D cy ad base μ) args s 0 0 (gA base)) (F0 m 2 ls []) := by
  intro n
  induction n with
  | zero =>
    intro x3 h
    exact (gloop_0 h).elim
  | succ n ih =>
    intro x3 h H locs ls hM hS hl
    obtain ⟨o, h0, hc, hq⟩ := gloop_s h
    have h1 : b_X6_lineBack_2 x2 x3 μ = some o := h0
    exact wb_X6_lineBack_2 h1 F E (fun t H locs ls ho hM hS hl => ih t (hc t ho) hM hS hl) (fun t H locs ls ho hM hS hl => kx t (hq _ ho).symm hM hS hl) (fun x ho => kr x (hq _ ho).symm) hM hS hl
def f_X6_lineBack (p2 : Int32) (μ : gM) : Option (Int32) :=
  Option.bind (gloop (fun t => b_X6_lineBack_2 p2 t μ) gFuel (0 : Int32)) (fun q10 => Sum.elim (fun t11 => some (-1 : Int32)) (fun x => some x) q10)
set_option maxHeartbeats 4000000 in
set_option maxRecDepth 100000 in
theorem c_X6_lineBack {l : Launch} {D : va_G} {cy : Nat → ClassId} {ad : Nat → Nat} {base : gBs} {p2 : Int32} {μ : gM} {RES : Int32} (h : f_X6_lineBack p2 μ = some RES) : Met l yX6_lineBack [.code yX6_lineBack cX6_lineBack 5 (some .int)] ({ frames := 1, cells := 0, slots := 0, locals := 23 } : Room) (va_Pc [.ref (ad 3), .ref (ad 34), .int p2] (gB l gFull D cy ad base μ)) (gQ (some (.int RES)) gFull D cy ad base μ) 0 0 (gA base) := by
  refine Met.ofW (cc := cX6_lineBack) (maxL := 5) (ret := (some .int)) (by decide) rfl ?_
  intro p e s m args below meth c s₁ B hml0 hv
  obtain ⟨rfl, E, hM⟩ := hv
  have F : gF p s m meth c cX6_lineBack RX6 5 (some .int) := gF_of B hml0
  obtain ⟨hx, hb, hml, hown, hlocks, hr⟩ := id F
  have hS : va_S (gA base) s.heap s.heap [] := va_S.rf
  have hl := lv_entry ([.ref (ad 3), .ref (ad 34), .int p2]) (n := 5) (Nat.le_of_ble_eq_true rfl)
  rw [lg_entry_eq]
  generalize (lg_sl ([.ref (ad 3), .ref (ad 34), .int p2]) ++ List.replicate (5 - (lg_sl ([.ref (ad 3), .ref (ad 34), .int p2])).length) Slot.unset).toArray = ls at hl ⊢
  have hl : lv_has ls 5 [(0, .ref (ad 3)), (1, .ref (ad 34)), (2, .int p2)] := hl
  unfold f_X6_lineBack at h
  refine lv_iconst (v := (0 : Int32)) hx hb dX6_lineBack_0 (by decide) ?_
  refine lv_istore_n (lv' := [(3, .int (0 : Int32)), (0, .ref (ad 3)), (1, .ref (ad 34)), (2, .int p2)]) hx hb dX6_lineBack_1 rfl hl (by decide) rfl (fun ls hl => ?_)
  obtain ⟨q10, h1, h⟩ := gbind_e h
  refine wl_X6_lineBack_2 F E (r := q10) (fun t11 H locs ls e1 hM hS hl => ?_) (fun x ex => ?_) gFuel (0 : Int32) h1 hM hS (lv_sub hl [1, 2, 3, 0] rfl)
  · replace h := gsum_l e1 h
    refine lv_iconst (v := (-1 : Int32)) hx hb dX6_lineBack_70 (by decide) ?_
    obtain rfl := Option.some.inj h
    exact g_iret hx hb hr hlocks hM hS dX6_lineBack_71
  · exact Option.some.inj (gsum_r ex h)
def b_X6_trace_33 (x2 : Int32) (x4 : Int32) (x5 : Int32) (μ : gM) : Option ((Int32 × Int32 × gM) ⊕ ((gM) ⊕ (gM))) :=
  if ((gi μ 34 1) ≤ x5) then some (.inr (.inl μ)) else if (x4 = x2) then some (.inr (.inl μ)) else Option.bind (f_X6_lineBack x4 μ) (fun q6 => if (q6 = (-1 : Int32)) then some (.inr (.inr μ)) else Option.bind (f_X3_across (gi μ 34 4) q6 x4 μ) (fun q8 => Option.bind (f_X3_riseFrom q6 q8 (si μ 3 2 ((gi μ 3 2) ||| ((1 : Int32) <<< (q6 &&& 31))))) (fun q9 => some (.inl (q8, (x5 + (1 : Int32)), (si (si μ 3 2 ((gi μ 3 2) ||| ((1 : Int32) <<< (q6 &&& 31)))) 3 3 ((gi (si μ 3 2 ((gi μ 3 2) ||| ((1 : Int32) <<< (q6 &&& 31)))) 3 3) + q9)))))))
set_option maxHeartbeats 4000000 in
set_option maxRecDepth 100000 in
theorem wb_X6_trace_33 {p : Program} {l : Launch} {e : Env} {s : State} {m : MethodId} {args : Array Value} {below : List Frame} {meth : Method} {c : Code} {D : va_G} {cy : Nat → ClassId} {ad : Nat → Nat} {base : gBs} {x2 : Int32} {x4 : Int32} {x5 : Int32} {μ : gM} {o : (Int32 × Int32 × gM) ⊕ ((gM) ⊕ (gM))} {RES : gM} (h : b_X6_trace_33 x2 x4 x5 μ = some o) (F : gF p s m meth c cX6_trace RX6 7 none) (E : gEnv l D cy ad base s) (kc : ∀ (t : Int32 × Int32 × gM) {H : Heap} {locs : List Loc} {ls : Array Slot}, o = .inl t → gW gFull D cy ad base t.2.2 H → va_S (gA base) s.heap H locs → lv_has ls 7 [(0, .ref (ad 3)), (1, .ref (ad 34)), (2, .int x2), (4, .int t.1), (5, .int t.2.1)] → W p l e ({ frames := 4, cells := 0, slots := 0, locals := 90 } : Room) s m args below meth c H locs 0 0 (MQ below (gQ none gFull D cy ad base RES) args s 0 0 (gA base)) (F0 m 33 ls [])) (kx : ∀ (t : gM) {H : Heap} {locs : List Loc} {ls : Array Slot}, o = .inr (.inl t) → gW gFull D cy ad base t H → va_S (gA base) s.heap H locs → lv_has ls 7 [] → W p l e ({ frames := 4, cells := 0, slots := 0, locals := 90 } : Room) s m args below meth c H locs 0 0 (MQ below (gQ none gFull D cy ad base RES) args s 0 0 (gA base)) (F0 m 114 ls [])) (kr : ∀ x : gM, o = .inr (.inr x) → x = RES) {H : Heap} {locs : List Loc} {ls : Array Slot} (hM : gW gFull D cy ad base μ H) (hS : va_S (gA base) s.heap H locs) (hl : lv_has ls 7 [(0, .ref (ad 3)), (1, .ref (ad 34)), (2, .int x2), (4, .int x4), (5, .int x5)]) : W p l e ({ frames := 4, cells := 0, slots := 0, locals := 90 } : Room) s m args below meth c H locs 0 0 (MQ below (gQ none gFull D cy ad base RES) args s 0 0 (gA base)) (F0 m 33 ls []) := by
  obtain ⟨hx, hb, hml, hown, hlocks, hr⟩ := id F
  unfold b_X6_trace_33 at h
  refine lv_iload hx hb dX6_trace_33 (lv_at hl 4 rfl) ?_
  refine lv_aload_n hx hb dX6_trace_35 rfl (lv_at hl 1 rfl) ?_
  refine gg_34_1 hx hb hown E hM hk_34 kw_392 dX6_trace_36 ?_
  refine lv_icmp_ge (tgt := 114) hx hb dX6_trace_39 (by decide) (fun c4 => ?_) (fun c4 => ?_)
  · replace h := gif_t c4 h
    exact kx _ (Option.some.inj h).symm hM hS (lv_sub hl [] rfl)
  · replace h := gif_f c4 h
    refine lv_iload hx hb dX6_trace_42 (lv_at hl 3 rfl) ?_
    refine lv_iload_n hx hb dX6_trace_44 rfl (lv_at hl 2 rfl) ?_
    refine lv_icmp_eq (tgt := 114) hx hb dX6_trace_45 (by decide) (fun c5 => ?_) (fun c5 => ?_)
    · replace h := gif_t c5 h
      exact kx _ (Option.some.inj h).symm hM hS (lv_sub hl [] rfl)
    · replace h := gif_f c5 h
      refine lv_aload_n hx hb dX6_trace_48 rfl (lv_at hl 0 rfl) ?_
      refine lv_aload_n hx hb dX6_trace_49 rfl (lv_at hl 1 rfl) ?_
      refine lv_iload hx hb dX6_trace_50 (lv_at hl 3 rfl) ?_
      obtain ⟨q6, hq6, h⟩ := gbind_e h
      refine g_callV (As := [.ref (ad 34), .int x4]) (rest := []) hx hb (hml.trans hl.1.symm) hown E hM hS hy_X6_lineBack kw_1280 (c_X6_lineBack hq6) hk_3 dd_3 rfl rfl rfl (Nat.le_of_ble_eq_true rfl) ⟨Nat.le_of_ble_eq_true rfl, Nat.le_of_ble_eq_true rfl⟩ ⟨Nat.le_of_ble_eq_true rfl, Nat.le_of_ble_eq_true rfl⟩ dX6_trace_52 (fun H locs hM hS => ?_)
      refine lv_istore (lv' := [(6, .int q6), (0, .ref (ad 3)), (1, .ref (ad 34)), (2, .int x2), (4, .int x4), (5, .int x5)]) hx hb dX6_trace_55 hl (by decide) rfl (fun ls hl => ?_)
      refine lv_iload hx hb dX6_trace_57 (lv_at hl 0 rfl) ?_
      refine lv_iconst (v := (-1 : Int32)) hx hb dX6_trace_59 (by decide) ?_
      refine lv_icmp_ne (tgt := 64) hx hb dX6_trace_60 (by decide) (fun c7 => ?_) (fun c7 => ?_)
      · replace h := gif_f c7 h
        refine lv_aload_n hx hb dX6_trace_64 rfl (lv_at hl 2 rfl) ?_
        refine lv_aload_n hx hb dX6_trace_65 rfl (lv_at hl 2 rfl) ?_
        refine gg_34_4 hx hb hown E hM hk_34 kw_409 dX6_trace_66 ?_
        refine lv_iload hx hb dX6_trace_69 (lv_at hl 0 rfl) ?_
        refine lv_iload hx hb dX6_trace_71 (lv_at hl 4 rfl) ?_
        obtain ⟨q8, hq8, h⟩ := gbind_e h
        refine g_callV (As := [.int (gi μ 34 4), .int q6, .int x4]) (rest := []) hx hb (hml.trans hl.1.symm) hown E hM hS hy_X3_across kw_1284 (c_X3_across hq8) hk_34 dd_34 rfl rfl rfl (Nat.le_of_ble_eq_true rfl) ⟨Nat.le_of_ble_eq_true rfl, Nat.le_of_ble_eq_true rfl⟩ ⟨Nat.le_of_ble_eq_true rfl, Nat.le_of_ble_eq_true rfl⟩ dX6_trace_73 (fun H locs hM hS => ?_)
        refine lv_istore (lv' := [(4, .int q8), (6, .int q6), (0, .ref (ad 3)), (1, .ref (ad 34)), (2, .int x2), (5, .int x5)]) hx hb dX6_trace_76 hl (by decide) rfl (fun ls hl => ?_)
        refine lv_aload_n hx hb dX6_trace_78 rfl (lv_at hl 2 rfl) ?_
        refine lv_dup hx hb dX6_trace_79 rfl ?_
        refine gg_3_2 hx hb hown E hM hk_3 kw_217 dX6_trace_80 ?_
        refine lv_iconst (v := (1 : Int32)) hx hb dX6_trace_83 (by decide) ?_
        refine lv_iload hx hb dX6_trace_84 (lv_at hl 1 rfl) ?_
        refine lv_ishl hx hb dX6_trace_86 ?_
        refine lv_ior hx hb dX6_trace_87 ?_
        refine gp_3_2 hx hb hown E hM hS hk_3 kw_217 dX6_trace_88 (fun H locs hM hS => ?_)
        refine lv_aload_n hx hb dX6_trace_91 rfl (lv_at hl 2 rfl) ?_
        refine lv_dup hx hb dX6_trace_92 rfl ?_
        refine gg_3_3 hx hb hown E hM hk_3 kw_219 dX6_trace_93 ?_
        refine lv_aload_n hx hb dX6_trace_96 rfl (lv_at hl 3 rfl) ?_
        refine lv_iload hx hb dX6_trace_97 (lv_at hl 1 rfl) ?_
        refine lv_iload hx hb dX6_trace_99 (lv_at hl 0 rfl) ?_
        obtain ⟨q9, hq9, h⟩ := gbind_e h
        refine g_callV (As := [.int q6, .int q8]) (rest := [.int (gi (si μ 3 2 ((gi μ 3 2) ||| ((1 : Int32) <<< (q6 &&& 31)))) 3 3), .ref (ad 3)]) hx hb (hml.trans hl.1.symm) hown E hM hS hy_X3_riseFrom kw_1285 (c_X3_riseFrom hq9) hk_34 dd_34 rfl rfl rfl (Nat.le_of_ble_eq_true rfl) ⟨Nat.le_of_ble_eq_true rfl, Nat.le_of_ble_eq_true rfl⟩ ⟨Nat.le_of_ble_eq_true rfl, Nat.le_of_ble_eq_true rfl⟩ dX6_trace_101 (fun H locs hM hS => ?_)
        refine lv_iadd hx hb dX6_trace_104 ?_
        refine gp_3_3 hx hb hown E hM hS hk_3 kw_219 dX6_trace_105 (fun H locs hM hS => ?_)
        refine lv_iinc (v := (x5 + (1 : Int32))) (lv' := [(5, .int (x5 + (1 : Int32))), (4, .int q8), (6, .int q6), (0, .ref (ad 3)), (1, .ref (ad 34)), (2, .int x2)]) hx hb dX6_trace_108 hl (k := 5) rfl rfl (by decide) rfl (fun ls hl => ?_)
        refine lv_goto (tgt := 33) hx hb dX6_trace_111 (by decide) ?_
        exact kc _ (Option.some.inj h).symm hM hS (lv_sub hl [3, 4, 5, 1, 0] rfl)
      · replace h := gif_t c7 h
        obtain rfl := kr _ (Option.some.inj h).symm
        exact g_vret hx hb hr hlocks hM hS dX6_trace_63
set_option maxHeartbeats 4000000 in
theorem wl_X6_trace_33 {p : Program} {l : Launch} {e : Env} {s : State} {m : MethodId} {args : Array Value} {below : List Frame} {meth : Method} {c : Code} {D : va_G} {cy : Nat → ClassId} {ad : Nat → Nat} {base : gBs} {x2 : Int32} {r : (gM) ⊕ (gM)} {RES : gM} (F : gF p s m meth c cX6_trace RX6 7 none) (E : gEnv l D cy ad base s) (kx : ∀ (t : gM) {H : Heap} {locs : List Loc} {ls : Array Slot}, r = .inl t → gW gFull D cy ad base t H → va_S (gA base) s.heap H locs → lv_has ls 7 [] → W p l e ({ frames := 4, cells := 0, slots := 0, locals := 90 } : Room) s m args below meth c H locs 0 0 (MQ below (gQ none gFull D cy ad base RES) args s 0 0 (gA base)) (F0 m 114 ls [])) (kr : ∀ x : gM, r = .inr x → x = RES) : ∀ (n : Nat) (x4 : Int32) (x5 : Int32) (μ : gM), gloop (fun t => b_X6_trace_33 x2 t.1 t.2.1 t.2.2) n (x4, x5, μ) = some r → ∀ {H : Heap} {locs : List Loc} {ls : Array Slot}, gW gFull D cy ad base μ H → va_S (gA base) s.heap H locs → lv_has ls 7 [(0, .ref (ad 3)), (1, .ref (ad 34)), (2, .int x2), (4, .int x4), (5, .int x5)] → W p l e ({ frames := 4, cells := 0, slots := 0, locals := 90 } : Room) s m args below meth c H locs 0 0 (MQ below (gQ none gFull D cy ad base RES) args s 0 0 (gA base)) (F0 m 33 ls []) := by
  intro n
  induction n with
  | zero =>
    intro x4 x5 μ h
    exact (gloop_0 h).elim
  | succ n ih =>
    intro x4 x5 μ h H locs ls hM hS hl
    obtain ⟨o, h0, hc, hq⟩ := gloop_s h
    have h1 : b_X6_trace_33 x2 x4 x5 μ = some o := h0
    exact wb_X6_trace_33 h1 F E (fun t H locs ls ho hM hS hl => ih t.1 t.2.1 t.2.2 (hc t ho) hM hS hl) (fun t H locs ls ho hM hS hl => kx t (hq _ ho).symm hM hS hl) (fun x ho => kr x (hq _ ho).symm) hM hS hl
def f_X6_trace (p2 : Int32) (p3 : Int32) (μ : gM) : Option (gM) :=
  Option.bind (f_X6_measure p2 μ) (fun q1 => gchk (gIn p3 16) (if ((gi (si (si q1 3 2 (0 : Int32)) 3 3 (0 : Int32)) 4 p3.toNatClampNeg) = (-1 : Int32)) then some (si (si q1 3 2 (0 : Int32)) 3 3 (0 : Int32)) else Option.bind (gloop (fun t => b_X6_trace_33 p2 t.1 t.2.1 t.2.2) gFuel (p3, (0 : Int32), (si (si q1 3 2 (0 : Int32)) 3 3 (0 : Int32)))) (fun q10 => Sum.elim (fun t11 => some t11) (fun x => some x) q10)))
set_option maxHeartbeats 4000000 in
set_option maxRecDepth 100000 in
theorem c_X6_trace {l : Launch} {D : va_G} {cy : Nat → ClassId} {ad : Nat → Nat} {base : gBs} {p2 : Int32} {p3 : Int32} {μ : gM} {RES : gM} (h : f_X6_trace p2 p3 μ = some RES) : Met l yX6_trace [.code yX6_trace cX6_trace 7 none] ({ frames := 4, cells := 0, slots := 0, locals := 90 } : Room) (va_Pc [.ref (ad 3), .ref (ad 34), .int p2, .int p3] (gB l gFull D cy ad base μ)) (gQ none gFull D cy ad base RES) 0 0 (gA base) := by
  refine Met.ofW (cc := cX6_trace) (maxL := 7) (ret := none) (by decide) rfl ?_
  intro p e s m args below meth c s₁ B hml0 hv
  obtain ⟨rfl, E, hM⟩ := hv
  have F : gF p s m meth c cX6_trace RX6 7 none := gF_of B hml0
  obtain ⟨hx, hb, hml, hown, hlocks, hr⟩ := id F
  have hS : va_S (gA base) s.heap s.heap [] := va_S.rf
  have hl := lv_entry ([.ref (ad 3), .ref (ad 34), .int p2, .int p3]) (n := 7) (Nat.le_of_ble_eq_true rfl)
  rw [lg_entry_eq]
  generalize (lg_sl ([.ref (ad 3), .ref (ad 34), .int p2, .int p3]) ++ List.replicate (7 - (lg_sl ([.ref (ad 3), .ref (ad 34), .int p2, .int p3])).length) Slot.unset).toArray = ls at hl ⊢
  have hl : lv_has ls 7 [(0, .ref (ad 3)), (1, .ref (ad 34)), (2, .int p2), (3, .int p3)] := hl
  unfold f_X6_trace at h
  refine lv_aload_n hx hb dX6_trace_0 rfl (lv_at hl 0 rfl) ?_
  refine lv_aload_n hx hb dX6_trace_1 rfl (lv_at hl 1 rfl) ?_
  refine lv_iload_n hx hb dX6_trace_2 rfl (lv_at hl 2 rfl) ?_
  obtain ⟨q1, hq1, h⟩ := gbind_e h
  refine g_callV (As := [.ref (ad 34), .int p2]) (rest := []) hx hb (hml.trans hl.1.symm) hown E hM hS hy_X6_measure kw_1279 (c_X6_measure hq1) hk_3 dd_3 rfl rfl rfl (Nat.le_of_ble_eq_true rfl) ⟨Nat.le_of_ble_eq_true rfl, Nat.le_of_ble_eq_true rfl⟩ ⟨Nat.le_of_ble_eq_true rfl, Nat.le_of_ble_eq_true rfl⟩ dX6_trace_3 (fun H locs hM hS => ?_)
  refine lv_aload_n hx hb dX6_trace_6 rfl (lv_at hl 0 rfl) ?_
  refine lv_iconst (v := (0 : Int32)) hx hb dX6_trace_7 (by decide) ?_
  refine gp_3_2 hx hb hown E hM hS hk_3 kw_217 dX6_trace_8 (fun H locs hM hS => ?_)
  refine lv_aload_n hx hb dX6_trace_11 rfl (lv_at hl 0 rfl) ?_
  refine lv_iconst (v := (0 : Int32)) hx hb dX6_trace_12 (by decide) ?_
  refine gp_3_3 hx hb hown E hM hS hk_3 kw_219 dX6_trace_13 (fun H locs hM hS => ?_)
  refine lv_aload_n hx hb dX6_trace_16 rfl (lv_at hl 0 rfl) ?_
  refine gg_3_0 hx hb hown E hM hk_3 kw_214 dX6_trace_17 ?_
  refine lv_iload_n hx hb dX6_trace_20 rfl (lv_at hl 3 rfl) ?_
  obtain ⟨c2, h⟩ := gchk_e h
  refine g_iald hx hb E hM hk_4 dd_4 c2 dX6_trace_21 ?_
  refine lv_iconst (v := (-1 : Int32)) hx hb dX6_trace_22 (by decide) ?_
  refine lv_icmp_ne (tgt := 27) hx hb dX6_trace_23 (by decide) (fun c3 => ?_) (fun c3 => ?_)
  · replace h := gif_f c3 h
    refine lv_iload_n hx hb dX6_trace_27 rfl (lv_at hl 3 rfl) ?_
    refine lv_istore (lv' := [(4, .int p3), (0, .ref (ad 3)), (1, .ref (ad 34)), (2, .int p2), (3, .int p3)]) hx hb dX6_trace_28 hl (by decide) rfl (fun ls hl => ?_)
    refine lv_iconst (v := (0 : Int32)) hx hb dX6_trace_30 (by decide) ?_
    refine lv_istore (lv' := [(5, .int (0 : Int32)), (4, .int p3), (0, .ref (ad 3)), (1, .ref (ad 34)), (2, .int p2), (3, .int p3)]) hx hb dX6_trace_31 hl (by decide) rfl (fun ls hl => ?_)
    obtain ⟨q10, h1, h⟩ := gbind_e h
    refine wl_X6_trace_33 F E (r := q10) (fun t11 H locs ls e1 hM hS hl => ?_) (fun x ex => ?_) gFuel p3 (0 : Int32) (si (si q1 3 2 (0 : Int32)) 3 3 (0 : Int32)) h1 hM hS (lv_sub hl [2, 3, 4, 1, 0] rfl)
    · replace h := gsum_l e1 h
      obtain rfl := Option.some.inj h
      exact g_vret hx hb hr hlocks hM hS dX6_trace_114
    · exact Option.some.inj (gsum_r ex h)
  · replace h := gif_t c3 h
    obtain rfl := Option.some.inj h
    exact g_vret hx hb hr hlocks hM hS dX6_trace_26
def b_X0_carry_4 (x2 : Int32) (x3 : Int32) (μ : gM) : Option ((Int32 × Int32 × gM) ⊕ (Int32 × gM)) :=
  if ((gi μ 34 1) ≤ x3) then some (.inr (x2, μ)) else gchk (gIn x3 16) (gchk (gIn x3 16) (if ((gi (sl μ 21 x3.toNatClampNeg (-9223372036854775808 : Int64)) 39 x3.toNatClampNeg) = (-1 : Int32)) then some (.inl (x2, (x3 + (1 : Int32)), (sl μ 21 x3.toNatClampNeg (-9223372036854775808 : Int64)))) else gchk (gIn x3 16) (gchk (gIn x3 16) (gchk (gIn x2 16) (some (.inl ((x2 + (1 : Int32)), (x3 + (1 : Int32)), (si (sl (sl μ 21 x3.toNatClampNeg (-9223372036854775808 : Int64)) 21 x3.toNatClampNeg ((100 : Int64) * (gi (sl μ 21 x3.toNatClampNeg (-9223372036854775808 : Int64)) 39 x3.toNatClampNeg).toInt64)) 23 x2.toNatClampNeg x3))))))))
set_option maxHeartbeats 4000000 in
set_option maxRecDepth 100000 in
theorem wb_X0_carry_4 {p : Program} {l : Launch} {e : Env} {s : State} {m : MethodId} {args : Array Value} {below : List Frame} {meth : Method} {c : Code} {D : va_G} {cy : Nat → ClassId} {ad : Nat → Nat} {base : gBs} {x2 : Int32} {x3 : Int32} {μ : gM} {o : (Int32 × Int32 × gM) ⊕ (Int32 × gM)} {RES : gM} (h : b_X0_carry_4 x2 x3 μ = some o) (F : gF p s m meth c cX0_carry RX0 7 none) (E : gEnv l D cy ad base s) (kc : ∀ (t : Int32 × Int32 × gM) {H : Heap} {locs : List Loc} {ls : Array Slot}, o = .inl t → gW gFull D cy ad base t.2.2 H → va_S (gA base) s.heap H locs → lv_has ls 7 [(0, .ref (ad 20)), (1, .ref (ad 34)), (2, .int t.1), (3, .int t.2.1)] → W p l e ({ frames := 4, cells := 0, slots := 0, locals := 90 } : Room) s m args below meth c H locs 0 0 (MQ below (gQ none gFull D cy ad base RES) args s 0 0 (gA base)) (F0 m 4 ls [])) (kx : ∀ (t : Int32 × gM) {H : Heap} {locs : List Loc} {ls : Array Slot}, o = .inr t → gW gFull D cy ad base t.2 H → va_S (gA base) s.heap H locs → lv_has ls 7 [(0, .ref (ad 20)), (1, .ref (ad 34)), (2, .int t.1)] → W p l e ({ frames := 4, cells := 0, slots := 0, locals := 90 } : Room) s m args below meth c H locs 0 0 (MQ below (gQ none gFull D cy ad base RES) args s 0 0 (gA base)) (F0 m 64 ls []))  {H : Heap} {locs : List Loc} {ls : Array Slot} (hM : gW gFull D cy ad base μ H) (hS : va_S (gA base) s.heap H locs) (hl : lv_has ls 7 [(0, .ref (ad 20)), (1, .ref (ad 34)), (2, .int x2), (3, .int x3)]) : W p l e ({ frames := 4, cells := 0, slots := 0, locals := 90 } : Room) s m args below meth c H locs 0 0 (MQ below (gQ none gFull D cy ad base RES) args s 0 0 (gA base)) (F0 m 4 ls []) := by
  obtain ⟨hx, hb, hml, hown, hlocks, hr⟩ := id F
  unfold b_X0_carry_4 at h
  refine lv_iload_n hx hb dX0_carry_4 rfl (lv_at hl 3 rfl) ?_
  refine lv_aload_n hx hb dX0_carry_5 rfl (lv_at hl 1 rfl) ?_
  refine gg_34_1 hx hb hown E hM hk_34 kw_393 dX0_carry_6 ?_
  refine lv_icmp_ge (tgt := 64) hx hb dX0_carry_9 (by decide) (fun c1 => ?_) (fun c1 => ?_)
  · replace h := gif_t c1 h
    exact kx _ (Option.some.inj h).symm hM hS (lv_sub hl [0, 1, 2] rfl)
  · replace h := gif_f c1 h
    refine lv_aload_n hx hb dX0_carry_12 rfl (lv_at hl 0 rfl) ?_
    refine gg_20_0 hx hb hown E hM hk_20 kw_317 dX0_carry_13 ?_
    refine lv_iload_n hx hb dX0_carry_16 rfl (lv_at hl 3 rfl) ?_
    refine lv_ldc2 hx hb hown (v := (-9223372036854775808 : Int64)) (E.kw kw_106) dX0_carry_17 ?_
    obtain ⟨c2, h⟩ := gchk_e h
    refine g_last hx hb E hM hS hk_21 dd_21 c2 dX0_carry_20 (fun H locs hM hS => ?_)
    refine lv_aload_n hx hb dX0_carry_21 rfl (lv_at hl 1 rfl) ?_
    refine gg_34_9 hx hb hown E hM hk_34 kw_423 dX0_carry_22 ?_
    refine lv_iload_n hx hb dX0_carry_25 rfl (lv_at hl 3 rfl) ?_
    obtain ⟨c3, h⟩ := gchk_e h
    refine g_iald hx hb E hM hk_39 dd_39 c3 dX0_carry_26 ?_
    refine lv_iconst (v := (-1 : Int32)) hx hb dX0_carry_27 (by decide) ?_
    refine lv_icmp_eq (tgt := 58) hx hb dX0_carry_28 (by decide) (fun c4 => ?_) (fun c4 => ?_)
    · replace h := gif_t c4 h
      refine lv_iinc (v := (x3 + (1 : Int32))) (lv' := [(3, .int (x3 + (1 : Int32))), (0, .ref (ad 20)), (1, .ref (ad 34)), (2, .int x2)]) hx hb dX0_carry_58 hl (k := 3) rfl rfl (by decide) rfl (fun ls hl => ?_)
      refine lv_goto (tgt := 4) hx hb dX0_carry_61 (by decide) ?_
      exact kc _ (Option.some.inj h).symm hM hS (lv_sub hl [1, 2, 3, 0] rfl)
    · replace h := gif_f c4 h
      refine lv_aload_n hx hb dX0_carry_31 rfl (lv_at hl 0 rfl) ?_
      refine gg_20_0 hx hb hown E hM hk_20 kw_317 dX0_carry_32 ?_
      refine lv_iload_n hx hb dX0_carry_35 rfl (lv_at hl 3 rfl) ?_
      refine lv_ldc2 hx hb hown (v := (100 : Int64)) (E.kw kw_107) dX0_carry_36 ?_
      refine lv_aload_n hx hb dX0_carry_39 rfl (lv_at hl 1 rfl) ?_
      refine gg_34_9 hx hb hown E hM hk_34 kw_423 dX0_carry_40 ?_
      refine lv_iload_n hx hb dX0_carry_43 rfl (lv_at hl 3 rfl) ?_
      obtain ⟨c5, h⟩ := gchk_e h
      refine g_iald hx hb E hM hk_39 dd_39 c5 dX0_carry_44 ?_
      refine lv_i2l (v := (gi (sl μ 21 x3.toNatClampNeg (-9223372036854775808 : Int64)) 39 x3.toNatClampNeg).toInt64) hx hb dX0_carry_45 rfl ?_
      refine lv_lmul hx hb dX0_carry_46 ?_
      obtain ⟨c6, h⟩ := gchk_e h
      refine g_last hx hb E hM hS hk_21 dd_21 c6 dX0_carry_47 (fun H locs hM hS => ?_)
      refine lv_aload_n hx hb dX0_carry_48 rfl (lv_at hl 0 rfl) ?_
      refine gg_20_3 hx hb hown E hM hk_20 kw_324 dX0_carry_49 ?_
      refine lv_iload_n hx hb dX0_carry_52 rfl (lv_at hl 2 rfl) ?_
      refine lv_iload_n hx hb dX0_carry_53 rfl (lv_at hl 3 rfl) ?_
      obtain ⟨c7, h⟩ := gchk_e h
      refine g_iast hx hb E hM hS hk_23 dd_23 c7 dX0_carry_54 (fun H locs hM hS => ?_)
      refine lv_iinc (v := (x2 + (1 : Int32))) (lv' := [(2, .int (x2 + (1 : Int32))), (0, .ref (ad 20)), (1, .ref (ad 34)), (3, .int x3)]) hx hb dX0_carry_55 hl (k := 2) rfl rfl (by decide) rfl (fun ls hl => ?_)
      refine lv_iinc (v := (x3 + (1 : Int32))) (lv' := [(3, .int (x3 + (1 : Int32))), (2, .int (x2 + (1 : Int32))), (0, .ref (ad 20)), (1, .ref (ad 34))]) hx hb dX0_carry_58 hl (k := 3) rfl rfl (by decide) rfl (fun ls hl => ?_)
      refine lv_goto (tgt := 4) hx hb dX0_carry_61 (by decide) ?_
      exact kc _ (Option.some.inj h).symm hM hS (lv_sub hl [2, 3, 1, 0] rfl)
set_option maxHeartbeats 4000000 in
theorem wl_X0_carry_4 {p : Program} {l : Launch} {e : Env} {s : State} {m : MethodId} {args : Array Value} {below : List Frame} {meth : Method} {c : Code} {D : va_G} {cy : Nat → ClassId} {ad : Nat → Nat} {base : gBs}  {r : Int32 × gM} {RES : gM} (F : gF p s m meth c cX0_carry RX0 7 none) (E : gEnv l D cy ad base s) (kx : ∀ (t : Int32 × gM) {H : Heap} {locs : List Loc} {ls : Array Slot}, r = t → gW gFull D cy ad base t.2 H → va_S (gA base) s.heap H locs → lv_has ls 7 [(0, .ref (ad 20)), (1, .ref (ad 34)), (2, .int t.1)] → W p l e ({ frames := 4, cells := 0, slots := 0, locals := 90 } : Room) s m args below meth c H locs 0 0 (MQ below (gQ none gFull D cy ad base RES) args s 0 0 (gA base)) (F0 m 64 ls []))  : ∀ (n : Nat) (x2 : Int32) (x3 : Int32) (μ : gM), gloop (fun t => b_X0_carry_4  t.1 t.2.1 t.2.2) n (x2, x3, μ) = some r → ∀ {H : Heap} {locs : List Loc} {ls : Array Slot}, gW gFull D cy ad base μ H → va_S (gA base) s.heap H locs → lv_has ls 7 [(0, .ref (ad 20)), (1, .ref (ad 34)), (2, .int x2), (3, .int x3)] → W p l e ({ frames := 4, cells := 0, slots := 0, locals := 90 } : Room) s m args below meth c H locs 0 0 (MQ below (gQ none gFull D cy ad base RES) args s 0 0 (gA base)) (F0 m 4 ls []) := by
  intro n
  induction n with
  | zero =>
    intro x2 x3 μ h
    exact (gloop_0 h).elim
  | succ n ih =>
    intro x2 x3 μ h H locs ls hM hS hl
    obtain ⟨o, h0, hc, hq⟩ := gloop_s h
    have h1 : b_X0_carry_4 x2 x3 μ = some o := h0
    exact wb_X0_carry_4 h1 F E (fun t H locs ls ho hM hS hl => ih t.1 t.2.1 t.2.2 (hc t ho) hM hS hl) (fun t H locs ls ho hM hS hl => kx t (hq _ ho).symm hM hS hl) hM hS hl
def b_X0_carry_90 (x3 : Int32) (x4 : Int32) (x2 : Int32) (x5 : Int32) (μ : gM) : Option ((Int32 × Int32 × gM) ⊕ (Int32 × gM)) :=
  if ((gi μ 34 2) ≤ x5) then some (.inr (x2, μ)) else Option.bind (f_X3_across (gi μ 34 4) x5 x4 μ) (fun q13 => if (q13 = (-1 : Int32)) then some (.inl (x2, (x5 + (1 : Int32)), μ)) else gchk (gIn q13 16) (if ((gl μ 21 q13.toNatClampNeg) = (-9223372036854775808 : Int64)) then if ((16 : Int32) ≤ x2) then some (.inl (x2, (x5 + (1 : Int32)), μ)) else gchk (gIn x4 16) (Option.bind (f_X3_riseFrom x5 x4 μ) (fun q19 => gchk (gIn q13 16) (gchk (gIn x2 16) (some (.inl ((x2 + (1 : Int32)), (x5 + (1 : Int32)), (si (sl μ 21 q13.toNatClampNeg ((gl μ 21 x4.toNatClampNeg) + q19.toInt64)) 23 x2.toNatClampNeg q13))))))) else some (.inl (x2, (x5 + (1 : Int32)), μ))))
set_option maxHeartbeats 4000000 in
set_option maxRecDepth 100000 in
theorem wb_X0_carry_90 {p : Program} {l : Launch} {e : Env} {s : State} {m : MethodId} {args : Array Value} {below : List Frame} {meth : Method} {c : Code} {D : va_G} {cy : Nat → ClassId} {ad : Nat → Nat} {base : gBs} {x3 : Int32} {x4 : Int32} {x2 : Int32} {x5 : Int32} {μ : gM} {o : (Int32 × Int32 × gM) ⊕ (Int32 × gM)} {RES : gM} (h : b_X0_carry_90 x3 x4 x2 x5 μ = some o) (F : gF p s m meth c cX0_carry RX0 7 none) (E : gEnv l D cy ad base s) (kc : ∀ (t : Int32 × Int32 × gM) {H : Heap} {locs : List Loc} {ls : Array Slot}, o = .inl t → gW gFull D cy ad base t.2.2 H → va_S (gA base) s.heap H locs → lv_has ls 7 [(0, .ref (ad 20)), (1, .ref (ad 34)), (2, .int t.1), (3, .int x3), (4, .int x4), (5, .int t.2.1)] → W p l e ({ frames := 4, cells := 0, slots := 0, locals := 90 } : Room) s m args below meth c H locs 0 0 (MQ below (gQ none gFull D cy ad base RES) args s 0 0 (gA base)) (F0 m 90 ls [])) (kx : ∀ (t : Int32 × gM) {H : Heap} {locs : List Loc} {ls : Array Slot}, o = .inr t → gW gFull D cy ad base t.2 H → va_S (gA base) s.heap H locs → lv_has ls 7 [(0, .ref (ad 20)), (1, .ref (ad 34)), (2, .int t.1), (3, .int x3)] → W p l e ({ frames := 4, cells := 0, slots := 0, locals := 90 } : Room) s m args below meth c H locs 0 0 (MQ below (gQ none gFull D cy ad base RES) args s 0 0 (gA base)) (F0 m 180 ls []))  {H : Heap} {locs : List Loc} {ls : Array Slot} (hM : gW gFull D cy ad base μ H) (hS : va_S (gA base) s.heap H locs) (hl : lv_has ls 7 [(0, .ref (ad 20)), (1, .ref (ad 34)), (2, .int x2), (3, .int x3), (4, .int x4), (5, .int x5)]) : W p l e ({ frames := 4, cells := 0, slots := 0, locals := 90 } : Room) s m args below meth c H locs 0 0 (MQ below (gQ none gFull D cy ad base RES) args s 0 0 (gA base)) (F0 m 90 ls []) := by
  obtain ⟨hx, hb, hml, hown, hlocks, hr⟩ := id F
  unfold b_X0_carry_90 at h
  refine lv_iload hx hb dX0_carry_90 (lv_at hl 5 rfl) ?_
  refine lv_aload_n hx hb dX0_carry_92 rfl (lv_at hl 1 rfl) ?_
  refine gg_34_2 hx hb hown E hM hk_34 kw_401 dX0_carry_93 ?_
  refine lv_icmp_ge (tgt := 180) hx hb dX0_carry_96 (by decide) (fun c12 => ?_) (fun c12 => ?_)
  · replace h := gif_t c12 h
    exact kx _ (Option.some.inj h).symm hM hS (lv_sub hl [0, 1, 2, 3] rfl)
  · replace h := gif_f c12 h
    refine lv_aload_n hx hb dX0_carry_99 rfl (lv_at hl 1 rfl) ?_
    refine lv_aload_n hx hb dX0_carry_100 rfl (lv_at hl 1 rfl) ?_
    refine gg_34_4 hx hb hown E hM hk_34 kw_408 dX0_carry_101 ?_
    refine lv_iload hx hb dX0_carry_104 (lv_at hl 5 rfl) ?_
    refine lv_iload hx hb dX0_carry_106 (lv_at hl 4 rfl) ?_
    obtain ⟨q13, hq13, h⟩ := gbind_e h
    refine g_callV (As := [.int (gi μ 34 4), .int x5, .int x4]) (rest := []) hx hb (hml.trans hl.1.symm) hown E hM hS hy_X3_across kw_108 (c_X3_across hq13) hk_34 dd_34 rfl rfl rfl (Nat.le_of_ble_eq_true rfl) ⟨Nat.le_of_ble_eq_true rfl, Nat.le_of_ble_eq_true rfl⟩ ⟨Nat.le_of_ble_eq_true rfl, Nat.le_of_ble_eq_true rfl⟩ dX0_carry_108 (fun H locs hM hS => ?_)
    refine lv_istore (lv' := [(6, .int q13), (0, .ref (ad 20)), (1, .ref (ad 34)), (2, .int x2), (3, .int x3), (4, .int x4), (5, .int x5)]) hx hb dX0_carry_111 hl (by decide) rfl (fun ls hl => ?_)
    refine lv_iload hx hb dX0_carry_113 (lv_at hl 0 rfl) ?_
    refine lv_iconst (v := (-1 : Int32)) hx hb dX0_carry_115 (by decide) ?_
    refine lv_icmp_eq (tgt := 174) hx hb dX0_carry_116 (by decide) (fun c14 => ?_) (fun c14 => ?_)
    · replace h := gif_t c14 h
      refine lv_iinc (v := (x5 + (1 : Int32))) (lv' := [(5, .int (x5 + (1 : Int32))), (6, .int q13), (0, .ref (ad 20)), (1, .ref (ad 34)), (2, .int x2), (3, .int x3), (4, .int x4)]) hx hb dX0_carry_174 hl (k := 6) rfl rfl (by decide) rfl (fun ls hl => ?_)
      refine lv_goto (tgt := 90) hx hb dX0_carry_177 (by decide) ?_
      exact kc _ (Option.some.inj h).symm hM hS (lv_sub hl [2, 3, 4, 5, 6, 0] rfl)
    · replace h := gif_f c14 h
      refine lv_aload_n hx hb dX0_carry_119 rfl (lv_at hl 1 rfl) ?_
      refine gg_20_0 hx hb hown E hM hk_20 kw_317 dX0_carry_120 ?_
      refine lv_iload hx hb dX0_carry_123 (lv_at hl 0 rfl) ?_
      obtain ⟨c15, h⟩ := gchk_e h
      refine g_lald hx hb E hM hk_21 dd_21 c15 dX0_carry_125 ?_
      refine lv_ldc2 hx hb hown (v := (-9223372036854775808 : Int64)) (E.kw kw_106) dX0_carry_126 ?_
      refine W.lcmp hx hb dX0_carry_129 ?_
      refine lv_if_ne (tgt := 174) hx hb dX0_carry_130 (by decide) (fun c16 => ?_) (fun c16 => ?_)
      · replace c16 := fun w => c16 ((lg_cmp_eq _ _).mpr w)
        replace h := gif_f c16 h
        refine lv_iinc (v := (x5 + (1 : Int32))) (lv' := [(5, .int (x5 + (1 : Int32))), (6, .int q13), (0, .ref (ad 20)), (1, .ref (ad 34)), (2, .int x2), (3, .int x3), (4, .int x4)]) hx hb dX0_carry_174 hl (k := 6) rfl rfl (by decide) rfl (fun ls hl => ?_)
        refine lv_goto (tgt := 90) hx hb dX0_carry_177 (by decide) ?_
        exact kc _ (Option.some.inj h).symm hM hS (lv_sub hl [2, 3, 4, 5, 6, 0] rfl)
      · replace c16 := (lg_cmp_eq _ _).mp c16
        replace h := gif_t c16 h
        refine lv_iload_n hx hb dX0_carry_133 rfl (lv_at hl 3 rfl) ?_
        refine lv_bipush (v := (16 : Int32)) hx hb dX0_carry_134 (by decide) ?_
        refine lv_icmp_ge (tgt := 174) hx hb dX0_carry_136 (by decide) (fun c17 => ?_) (fun c17 => ?_)
        · replace h := gif_t c17 h
          refine lv_iinc (v := (x5 + (1 : Int32))) (lv' := [(5, .int (x5 + (1 : Int32))), (6, .int q13), (0, .ref (ad 20)), (1, .ref (ad 34)), (2, .int x2), (3, .int x3), (4, .int x4)]) hx hb dX0_carry_174 hl (k := 6) rfl rfl (by decide) rfl (fun ls hl => ?_)
          refine lv_goto (tgt := 90) hx hb dX0_carry_177 (by decide) ?_
          exact kc _ (Option.some.inj h).symm hM hS (lv_sub hl [2, 3, 4, 5, 6, 0] rfl)
        · replace h := gif_f c17 h
          refine lv_aload_n hx hb dX0_carry_139 rfl (lv_at hl 1 rfl) ?_
          refine gg_20_0 hx hb hown E hM hk_20 kw_317 dX0_carry_140 ?_
          refine lv_iload hx hb dX0_carry_143 (lv_at hl 0 rfl) ?_
          refine lv_aload_n hx hb dX0_carry_145 rfl (lv_at hl 1 rfl) ?_
          refine gg_20_0 hx hb hown E hM hk_20 kw_317 dX0_carry_146 ?_
          refine lv_iload hx hb dX0_carry_149 (lv_at hl 5 rfl) ?_
          obtain ⟨c18, h⟩ := gchk_e h
          refine g_lald hx hb E hM hk_21 dd_21 c18 dX0_carry_151 ?_
          refine lv_aload_n hx hb dX0_carry_152 rfl (lv_at hl 2 rfl) ?_
          refine lv_iload hx hb dX0_carry_153 (lv_at hl 6 rfl) ?_
          refine lv_iload hx hb dX0_carry_155 (lv_at hl 5 rfl) ?_
          obtain ⟨q19, hq19, h⟩ := gbind_e h
          refine g_callV (As := [.int x5, .int x4]) (rest := [.long (gl μ 21 x4.toNatClampNeg), .int q13, .ref (ad 21)]) hx hb (hml.trans hl.1.symm) hown E hM hS hy_X3_riseFrom kw_112 (c_X3_riseFrom hq19) hk_34 dd_34 rfl rfl rfl (Nat.le_of_ble_eq_true rfl) ⟨Nat.le_of_ble_eq_true rfl, Nat.le_of_ble_eq_true rfl⟩ ⟨Nat.le_of_ble_eq_true rfl, Nat.le_of_ble_eq_true rfl⟩ dX0_carry_157 (fun H locs hM hS => ?_)
          refine lv_i2l (v := q19.toInt64) hx hb dX0_carry_160 rfl ?_
          refine lv_ladd hx hb dX0_carry_161 ?_
          obtain ⟨c20, h⟩ := gchk_e h
          refine g_last hx hb E hM hS hk_21 dd_21 c20 dX0_carry_162 (fun H locs hM hS => ?_)
          refine lv_aload_n hx hb dX0_carry_163 rfl (lv_at hl 1 rfl) ?_
          refine gg_20_3 hx hb hown E hM hk_20 kw_324 dX0_carry_164 ?_
          refine lv_iload_n hx hb dX0_carry_167 rfl (lv_at hl 3 rfl) ?_
          refine lv_iload hx hb dX0_carry_168 (lv_at hl 0 rfl) ?_
          obtain ⟨c21, h⟩ := gchk_e h
          refine g_iast hx hb E hM hS hk_23 dd_23 c21 dX0_carry_170 (fun H locs hM hS => ?_)
          refine lv_iinc (v := (x2 + (1 : Int32))) (lv' := [(2, .int (x2 + (1 : Int32))), (6, .int q13), (0, .ref (ad 20)), (1, .ref (ad 34)), (3, .int x3), (4, .int x4), (5, .int x5)]) hx hb dX0_carry_171 hl (k := 3) rfl rfl (by decide) rfl (fun ls hl => ?_)
          refine lv_iinc (v := (x5 + (1 : Int32))) (lv' := [(5, .int (x5 + (1 : Int32))), (2, .int (x2 + (1 : Int32))), (6, .int q13), (0, .ref (ad 20)), (1, .ref (ad 34)), (3, .int x3), (4, .int x4)]) hx hb dX0_carry_174 hl (k := 6) rfl rfl (by decide) rfl (fun ls hl => ?_)
          refine lv_goto (tgt := 90) hx hb dX0_carry_177 (by decide) ?_
          exact kc _ (Option.some.inj h).symm hM hS (lv_sub hl [3, 4, 1, 5, 6, 0] rfl)
set_option maxHeartbeats 4000000 in
theorem wl_X0_carry_90 {p : Program} {l : Launch} {e : Env} {s : State} {m : MethodId} {args : Array Value} {below : List Frame} {meth : Method} {c : Code} {D : va_G} {cy : Nat → ClassId} {ad : Nat → Nat} {base : gBs} {x3 : Int32} {x4 : Int32} {r : Int32 × gM} {RES : gM} (F : gF p s m meth c cX0_carry RX0 7 none) (E : gEnv l D cy ad base s) (kx : ∀ (t : Int32 × gM) {H : Heap} {locs : List Loc} {ls : Array Slot}, r = t → gW gFull D cy ad base t.2 H → va_S (gA base) s.heap H locs → lv_has ls 7 [(0, .ref (ad 20)), (1, .ref (ad 34)), (2, .int t.1), (3, .int x3)] → W p l e ({ frames := 4, cells := 0, slots := 0, locals := 90 } : Room) s m args below meth c H locs 0 0 (MQ below (gQ none gFull D cy ad base RES) args s 0 0 (gA base)) (F0 m 180 ls []))  : ∀ (n : Nat) (x2 : Int32) (x5 : Int32) (μ : gM), gloop (fun t => b_X0_carry_90 x3 x4 t.1 t.2.1 t.2.2) n (x2, x5, μ) = some r → ∀ {H : Heap} {locs : List Loc} {ls : Array Slot}, gW gFull D cy ad base μ H → va_S (gA base) s.heap H locs → lv_has ls 7 [(0, .ref (ad 20)), (1, .ref (ad 34)), (2, .int x2), (3, .int x3), (4, .int x4), (5, .int x5)] → W p l e ({ frames := 4, cells := 0, slots := 0, locals := 90 } : Room) s m args below meth c H locs 0 0 (MQ below (gQ none gFull D cy ad base RES) args s 0 0 (gA base)) (F0 m 90 ls []) := by
  intro n
  induction n with
  | zero =>
    intro x2 x5 μ h
    exact (gloop_0 h).elim
  | succ n ih =>
    intro x2 x5 μ h H locs ls hM hS hl
    obtain ⟨o, h0, hc, hq⟩ := gloop_s h
    have h1 : b_X0_carry_90 x3 x4 x2 x5 μ = some o := h0
    exact wb_X0_carry_90 h1 F E (fun t H locs ls ho hM hS hl => ih t.1 t.2.1 t.2.2 (hc t ho) hM hS hl) (fun t H locs ls ho hM hS hl => kx t (hq _ ho).symm hM hS hl) hM hS hl
def b_X0_carry_66 (x2 : Int32) (x3 : Int32) (μ : gM) : Option ((Int32 × Int32 × gM) ⊕ (gM)) :=
  if ((gi μ 34 1) ≤ x3) then some (.inr μ) else if (x2 ≤ x3) then some (.inr μ) else gchk (gIn x3 16) (Option.bind (gloop (fun t => b_X0_carry_90 x3 (gi μ 23 x3.toNatClampNeg) t.1 t.2.1 t.2.2) gFuel (x2, (0 : Int32), μ)) (fun q22 => some (.inl (q22.1, (x3 + (1 : Int32)), q22.2))))
set_option maxHeartbeats 4000000 in
set_option maxRecDepth 100000 in
theorem wb_X0_carry_66 {p : Program} {l : Launch} {e : Env} {s : State} {m : MethodId} {args : Array Value} {below : List Frame} {meth : Method} {c : Code} {D : va_G} {cy : Nat → ClassId} {ad : Nat → Nat} {base : gBs} {x2 : Int32} {x3 : Int32} {μ : gM} {o : (Int32 × Int32 × gM) ⊕ (gM)} {RES : gM} (h : b_X0_carry_66 x2 x3 μ = some o) (F : gF p s m meth c cX0_carry RX0 7 none) (E : gEnv l D cy ad base s) (kc : ∀ (t : Int32 × Int32 × gM) {H : Heap} {locs : List Loc} {ls : Array Slot}, o = .inl t → gW gFull D cy ad base t.2.2 H → va_S (gA base) s.heap H locs → lv_has ls 7 [(0, .ref (ad 20)), (1, .ref (ad 34)), (2, .int t.1), (3, .int t.2.1)] → W p l e ({ frames := 4, cells := 0, slots := 0, locals := 90 } : Room) s m args below meth c H locs 0 0 (MQ below (gQ none gFull D cy ad base RES) args s 0 0 (gA base)) (F0 m 66 ls [])) (kx : ∀ (t : gM) {H : Heap} {locs : List Loc} {ls : Array Slot}, o = .inr t → gW gFull D cy ad base t H → va_S (gA base) s.heap H locs → lv_has ls 7 [] → W p l e ({ frames := 4, cells := 0, slots := 0, locals := 90 } : Room) s m args below meth c H locs 0 0 (MQ below (gQ none gFull D cy ad base RES) args s 0 0 (gA base)) (F0 m 186 ls []))  {H : Heap} {locs : List Loc} {ls : Array Slot} (hM : gW gFull D cy ad base μ H) (hS : va_S (gA base) s.heap H locs) (hl : lv_has ls 7 [(0, .ref (ad 20)), (1, .ref (ad 34)), (2, .int x2), (3, .int x3)]) : W p l e ({ frames := 4, cells := 0, slots := 0, locals := 90 } : Room) s m args below meth c H locs 0 0 (MQ below (gQ none gFull D cy ad base RES) args s 0 0 (gA base)) (F0 m 66 ls []) := by
  obtain ⟨hx, hb, hml, hown, hlocks, hr⟩ := id F
  unfold b_X0_carry_66 at h
  refine lv_iload_n hx hb dX0_carry_66 rfl (lv_at hl 3 rfl) ?_
  refine lv_aload_n hx hb dX0_carry_67 rfl (lv_at hl 1 rfl) ?_
  refine gg_34_1 hx hb hown E hM hk_34 kw_393 dX0_carry_68 ?_
  refine lv_icmp_ge (tgt := 186) hx hb dX0_carry_71 (by decide) (fun c9 => ?_) (fun c9 => ?_)
  · replace h := gif_t c9 h
    exact kx _ (Option.some.inj h).symm hM hS (lv_sub hl [] rfl)
  · replace h := gif_f c9 h
    refine lv_iload_n hx hb dX0_carry_74 rfl (lv_at hl 3 rfl) ?_
    refine lv_iload_n hx hb dX0_carry_75 rfl (lv_at hl 2 rfl) ?_
    refine lv_icmp_ge (tgt := 186) hx hb dX0_carry_76 (by decide) (fun c10 => ?_) (fun c10 => ?_)
    · replace h := gif_t c10 h
      exact kx _ (Option.some.inj h).symm hM hS (lv_sub hl [] rfl)
    · replace h := gif_f c10 h
      refine lv_aload_n hx hb dX0_carry_79 rfl (lv_at hl 0 rfl) ?_
      refine gg_20_3 hx hb hown E hM hk_20 kw_324 dX0_carry_80 ?_
      refine lv_iload_n hx hb dX0_carry_83 rfl (lv_at hl 3 rfl) ?_
      obtain ⟨c11, h⟩ := gchk_e h
      refine g_iald hx hb E hM hk_23 dd_23 c11 dX0_carry_84 ?_
      refine lv_istore (lv' := [(4, .int (gi μ 23 x3.toNatClampNeg)), (0, .ref (ad 20)), (1, .ref (ad 34)), (2, .int x2), (3, .int x3)]) hx hb dX0_carry_85 hl (by decide) rfl (fun ls hl => ?_)
      refine lv_iconst (v := (0 : Int32)) hx hb dX0_carry_87 (by decide) ?_
      refine lv_istore (lv' := [(5, .int (0 : Int32)), (4, .int (gi μ 23 x3.toNatClampNeg)), (0, .ref (ad 20)), (1, .ref (ad 34)), (2, .int x2), (3, .int x3)]) hx hb dX0_carry_88 hl (by decide) rfl (fun ls hl => ?_)
      obtain ⟨z23, h1, h⟩ := gbind_e h
      refine wl_X0_carry_90 F E (r := z23) (fun q22 H locs ls e1 hM hS hl => ?_) gFuel x2 (0 : Int32) μ h1 hM hS (lv_sub hl [2, 3, 4, 5, 1, 0] rfl)
      replace e1 : z23 = q22 := e1
      rw [e1] at h
      refine lv_iinc (v := (x3 + (1 : Int32))) (lv' := [(3, .int (x3 + (1 : Int32))), (0, .ref (ad 20)), (1, .ref (ad 34)), (2, .int q22.1)]) hx hb dX0_carry_180 hl (k := 3) rfl rfl (by decide) rfl (fun ls hl => ?_)
      refine lv_goto (tgt := 66) hx hb dX0_carry_183 (by decide) ?_
      exact kc _ (Option.some.inj h).symm hM hS (lv_sub hl [1, 2, 3, 0] rfl)
set_option maxHeartbeats 4000000 in
theorem wl_X0_carry_66 {p : Program} {l : Launch} {e : Env} {s : State} {m : MethodId} {args : Array Value} {below : List Frame} {meth : Method} {c : Code} {D : va_G} {cy : Nat → ClassId} {ad : Nat → Nat} {base : gBs}  {r : gM} {RES : gM} (F : gF p s m meth c cX0_carry RX0 7 none) (E : gEnv l D cy ad base s) (kx : ∀ (t : gM) {H : Heap} {locs : List Loc} {ls : Array Slot}, r = t → gW gFull D cy ad base t H → va_S (gA base) s.heap H locs → lv_has ls 7 [] → W p l e ({ frames := 4, cells := 0, slots := 0, locals := 90 } : Room) s m args below meth c H locs 0 0 (MQ below (gQ none gFull D cy ad base RES) args s 0 0 (gA base)) (F0 m 186 ls []))  : ∀ (n : Nat) (x2 : Int32) (x3 : Int32) (μ : gM), gloop (fun t => b_X0_carry_66  t.1 t.2.1 t.2.2) n (x2, x3, μ) = some r → ∀ {H : Heap} {locs : List Loc} {ls : Array Slot}, gW gFull D cy ad base μ H → va_S (gA base) s.heap H locs → lv_has ls 7 [(0, .ref (ad 20)), (1, .ref (ad 34)), (2, .int x2), (3, .int x3)] → W p l e ({ frames := 4, cells := 0, slots := 0, locals := 90 } : Room) s m args below meth c H locs 0 0 (MQ below (gQ none gFull D cy ad base RES) args s 0 0 (gA base)) (F0 m 66 ls []) := by
  intro n
  induction n with
  | zero =>
    intro x2 x3 μ h
    exact (gloop_0 h).elim
  | succ n ih =>
    intro x2 x3 μ h H locs ls hM hS hl
    obtain ⟨o, h0, hc, hq⟩ := gloop_s h
    have h1 : b_X0_carry_66 x2 x3 μ = some o := h0
    exact wb_X0_carry_66 h1 F E (fun t H locs ls ho hM hS hl => ih t.1 t.2.1 t.2.2 (hc t ho) hM hS hl) (fun t H locs ls ho hM hS hl => kx t (hq _ ho).symm hM hS hl) hM hS hl
def f_X0_carry (μ : gM) : Option (gM) :=
  Option.bind (gloop (fun t => b_X0_carry_4  t.1 t.2.1 t.2.2) gFuel ((0 : Int32), (0 : Int32), μ)) (fun q8 => Option.bind (gloop (fun t => b_X0_carry_66  t.1 t.2.1 t.2.2) gFuel (q8.1, (0 : Int32), q8.2)) (fun q24 => some q24))
set_option maxHeartbeats 4000000 in
set_option maxRecDepth 100000 in
theorem c_X0_carry {l : Launch} {D : va_G} {cy : Nat → ClassId} {ad : Nat → Nat} {base : gBs}  {μ : gM} {RES : gM} (h : f_X0_carry  μ = some RES) : Met l yX0_carry [.code yX0_carry cX0_carry 7 none] ({ frames := 4, cells := 0, slots := 0, locals := 90 } : Room) (va_Pc [.ref (ad 20), .ref (ad 34)] (gB l gFull D cy ad base μ)) (gQ none gFull D cy ad base RES) 0 0 (gA base) := by
  refine Met.ofW (cc := cX0_carry) (maxL := 7) (ret := none) (by decide) rfl ?_
  intro p e s m args below meth c s₁ B hml0 hv
  obtain ⟨rfl, E, hM⟩ := hv
  have F : gF p s m meth c cX0_carry RX0 7 none := gF_of B hml0
  obtain ⟨hx, hb, hml, hown, hlocks, hr⟩ := id F
  have hS : va_S (gA base) s.heap s.heap [] := va_S.rf
  have hl := lv_entry ([.ref (ad 20), .ref (ad 34)]) (n := 7) (Nat.le_of_ble_eq_true rfl)
  rw [lg_entry_eq]
  generalize (lg_sl ([.ref (ad 20), .ref (ad 34)]) ++ List.replicate (7 - (lg_sl ([.ref (ad 20), .ref (ad 34)])).length) Slot.unset).toArray = ls at hl ⊢
  have hl : lv_has ls 7 [(0, .ref (ad 20)), (1, .ref (ad 34))] := hl
  unfold f_X0_carry at h
  refine lv_iconst (v := (0 : Int32)) hx hb dX0_carry_0 (by decide) ?_
  refine lv_istore_n (lv' := [(2, .int (0 : Int32)), (0, .ref (ad 20)), (1, .ref (ad 34))]) hx hb dX0_carry_1 rfl hl (by decide) rfl (fun ls hl => ?_)
  refine lv_iconst (v := (0 : Int32)) hx hb dX0_carry_2 (by decide) ?_
  refine lv_istore_n (lv' := [(3, .int (0 : Int32)), (2, .int (0 : Int32)), (0, .ref (ad 20)), (1, .ref (ad 34))]) hx hb dX0_carry_3 rfl hl (by decide) rfl (fun ls hl => ?_)
  obtain ⟨z26, h1, h⟩ := gbind_e h
  refine wl_X0_carry_4 F E (r := z26) (fun q8 H locs ls e1 hM hS hl => ?_) gFuel (0 : Int32) (0 : Int32) μ h1 hM hS (lv_sub hl [2, 3, 1, 0] rfl)
  replace e1 : z26 = q8 := e1
  rw [e1] at h
  refine lv_iconst (v := (0 : Int32)) hx hb dX0_carry_64 (by decide) ?_
  refine lv_istore_n (lv' := [(3, .int (0 : Int32)), (0, .ref (ad 20)), (1, .ref (ad 34)), (2, .int q8.1)]) hx hb dX0_carry_65 rfl hl (by decide) rfl (fun ls hl => ?_)
  obtain ⟨z25, h1, h⟩ := gbind_e h
  refine wl_X0_carry_66 F E (r := z25) (fun q24 H locs ls e1 hM hS hl => ?_) gFuel q8.1 (0 : Int32) q8.2 h1 hM hS (lv_sub hl [1, 2, 3, 0] rfl)
  replace e1 : z25 = q24 := e1
  rw [e1] at h
  obtain rfl := Option.some.inj h
  exact g_vret hx hb hr hlocks hM hS dX0_carry_186
def b_X0_gatherLines_22 (x3 : Int32) (x2 : Int32) (x4 : Int32) (μ : gM) : Option ((Int32 × Int32 × gM) ⊕ (Int32 × gM)) :=
  if ((gi μ 34 2) ≤ x4) then some (.inr (x2, μ)) else Option.bind (f_X3_across (gi μ 34 4) x4 x3 μ) (fun q4 => if (q4 = (-1 : Int32)) then some (.inl (x2, (x4 + (1 : Int32)), μ)) else gchk (gIn x2 40) (Option.bind (f_X3_riseFrom x4 q4 (si μ 25 x2.toNatClampNeg q4)) (fun q7 => gchk (gIn x2 40) (Option.bind (f_X3_lineWeight x4 (si (si μ 25 x2.toNatClampNeg q4) 26 x2.toNatClampNeg q7)) (fun q9 => gchk (gIn x2 40) (some (.inl ((x2 + (1 : Int32)), (x4 + (1 : Int32)), (si (si (si μ 25 x2.toNatClampNeg q4) 26 x2.toNatClampNeg q7) 27 x2.toNatClampNeg q9)))))))))
set_option maxHeartbeats 4000000 in
set_option maxRecDepth 100000 in
theorem wb_X0_gatherLines_22 {p : Program} {l : Launch} {e : Env} {s : State} {m : MethodId} {args : Array Value} {below : List Frame} {meth : Method} {c : Code} {D : va_G} {cy : Nat → ClassId} {ad : Nat → Nat} {base : gBs} {x3 : Int32} {x2 : Int32} {x4 : Int32} {μ : gM} {o : (Int32 × Int32 × gM) ⊕ (Int32 × gM)} {RES : gM} (h : b_X0_gatherLines_22 x3 x2 x4 μ = some o) (F : gF p s m meth c cX0_gatherLines RX0 6 none) (E : gEnv l D cy ad base s) (kc : ∀ (t : Int32 × Int32 × gM) {H : Heap} {locs : List Loc} {ls : Array Slot}, o = .inl t → gW gFull D cy ad base t.2.2 H → va_S (gA base) s.heap H locs → lv_has ls 6 [(0, .ref (ad 20)), (1, .ref (ad 34)), (2, .int t.1), (3, .int x3), (4, .int t.2.1)] → W p l e ({ frames := 4, cells := 0, slots := 0, locals := 90 } : Room) s m args below meth c H locs 0 0 (MQ below (gQ none gFull D cy ad base RES) args s 0 0 (gA base)) (F0 m 22 ls [])) (kx : ∀ (t : Int32 × gM) {H : Heap} {locs : List Loc} {ls : Array Slot}, o = .inr t → gW gFull D cy ad base t.2 H → va_S (gA base) s.heap H locs → lv_has ls 6 [(0, .ref (ad 20)), (1, .ref (ad 34)), (2, .int t.1), (3, .int x3)] → W p l e ({ frames := 4, cells := 0, slots := 0, locals := 90 } : Room) s m args below meth c H locs 0 0 (MQ below (gQ none gFull D cy ad base RES) args s 0 0 (gA base)) (F0 m 93 ls []))  {H : Heap} {locs : List Loc} {ls : Array Slot} (hM : gW gFull D cy ad base μ H) (hS : va_S (gA base) s.heap H locs) (hl : lv_has ls 6 [(0, .ref (ad 20)), (1, .ref (ad 34)), (2, .int x2), (3, .int x3), (4, .int x4)]) : W p l e ({ frames := 4, cells := 0, slots := 0, locals := 90 } : Room) s m args below meth c H locs 0 0 (MQ below (gQ none gFull D cy ad base RES) args s 0 0 (gA base)) (F0 m 22 ls []) := by
  obtain ⟨hx, hb, hml, hown, hlocks, hr⟩ := id F
  unfold b_X0_gatherLines_22 at h
  refine lv_iload hx hb dX0_gatherLines_22 (lv_at hl 4 rfl) ?_
  refine lv_aload_n hx hb dX0_gatherLines_24 rfl (lv_at hl 1 rfl) ?_
  refine gg_34_2 hx hb hown E hM hk_34 kw_401 dX0_gatherLines_25 ?_
  refine lv_icmp_ge (tgt := 93) hx hb dX0_gatherLines_28 (by decide) (fun c3 => ?_) (fun c3 => ?_)
  · replace h := gif_t c3 h
    exact kx _ (Option.some.inj h).symm hM hS (lv_sub hl [0, 1, 2, 3] rfl)
  · replace h := gif_f c3 h
    refine lv_aload_n hx hb dX0_gatherLines_31 rfl (lv_at hl 1 rfl) ?_
    refine lv_aload_n hx hb dX0_gatherLines_32 rfl (lv_at hl 1 rfl) ?_
    refine gg_34_4 hx hb hown E hM hk_34 kw_408 dX0_gatherLines_33 ?_
    refine lv_iload hx hb dX0_gatherLines_36 (lv_at hl 4 rfl) ?_
    refine lv_iload_n hx hb dX0_gatherLines_38 rfl (lv_at hl 3 rfl) ?_
    obtain ⟨q4, hq4, h⟩ := gbind_e h
    refine g_callV (As := [.int (gi μ 34 4), .int x4, .int x3]) (rest := []) hx hb (hml.trans hl.1.symm) hown E hM hS hy_X3_across kw_108 (c_X3_across hq4) hk_34 dd_34 rfl rfl rfl (Nat.le_of_ble_eq_true rfl) ⟨Nat.le_of_ble_eq_true rfl, Nat.le_of_ble_eq_true rfl⟩ ⟨Nat.le_of_ble_eq_true rfl, Nat.le_of_ble_eq_true rfl⟩ dX0_gatherLines_39 (fun H locs hM hS => ?_)
    refine lv_istore (lv' := [(5, .int q4), (0, .ref (ad 20)), (1, .ref (ad 34)), (2, .int x2), (3, .int x3), (4, .int x4)]) hx hb dX0_gatherLines_42 hl (by decide) rfl (fun ls hl => ?_)
    refine lv_iload hx hb dX0_gatherLines_44 (lv_at hl 0 rfl) ?_
    refine lv_iconst (v := (-1 : Int32)) hx hb dX0_gatherLines_46 (by decide) ?_
    refine lv_icmp_eq (tgt := 87) hx hb dX0_gatherLines_47 (by decide) (fun c5 => ?_) (fun c5 => ?_)
    · replace h := gif_t c5 h
      refine lv_iinc (v := (x4 + (1 : Int32))) (lv' := [(4, .int (x4 + (1 : Int32))), (5, .int q4), (0, .ref (ad 20)), (1, .ref (ad 34)), (2, .int x2), (3, .int x3)]) hx hb dX0_gatherLines_87 hl (k := 5) rfl rfl (by decide) rfl (fun ls hl => ?_)
      refine lv_goto (tgt := 22) hx hb dX0_gatherLines_90 (by decide) ?_
      exact kc _ (Option.some.inj h).symm hM hS (lv_sub hl [2, 3, 4, 5, 0] rfl)
    · replace h := gif_f c5 h
      refine lv_aload_n hx hb dX0_gatherLines_50 rfl (lv_at hl 1 rfl) ?_
      refine gg_20_5 hx hb hown E hM hk_20 kw_326 dX0_gatherLines_51 ?_
      refine lv_iload_n hx hb dX0_gatherLines_54 rfl (lv_at hl 3 rfl) ?_
      refine lv_iload hx hb dX0_gatherLines_55 (lv_at hl 0 rfl) ?_
      obtain ⟨c6, h⟩ := gchk_e h
      refine g_iast hx hb E hM hS hk_25 dd_25 c6 dX0_gatherLines_57 (fun H locs hM hS => ?_)
      refine lv_aload_n hx hb dX0_gatherLines_58 rfl (lv_at hl 1 rfl) ?_
      refine gg_20_6 hx hb hown E hM hk_20 kw_327 dX0_gatherLines_59 ?_
      refine lv_iload_n hx hb dX0_gatherLines_62 rfl (lv_at hl 3 rfl) ?_
      refine lv_aload_n hx hb dX0_gatherLines_63 rfl (lv_at hl 2 rfl) ?_
      refine lv_iload hx hb dX0_gatherLines_64 (lv_at hl 5 rfl) ?_
      refine lv_iload hx hb dX0_gatherLines_66 (lv_at hl 0 rfl) ?_
      obtain ⟨q7, hq7, h⟩ := gbind_e h
      refine g_callV (As := [.int x4, .int q4]) (rest := [.int x2, .ref (ad 26)]) hx hb (hml.trans hl.1.symm) hown E hM hS hy_X3_riseFrom kw_112 (c_X3_riseFrom hq7) hk_34 dd_34 rfl rfl rfl (Nat.le_of_ble_eq_true rfl) ⟨Nat.le_of_ble_eq_true rfl, Nat.le_of_ble_eq_true rfl⟩ ⟨Nat.le_of_ble_eq_true rfl, Nat.le_of_ble_eq_true rfl⟩ dX0_gatherLines_68 (fun H locs hM hS => ?_)
      obtain ⟨c8, h⟩ := gchk_e h
      refine g_iast hx hb E hM hS hk_26 dd_26 c8 dX0_gatherLines_71 (fun H locs hM hS => ?_)
      refine lv_aload_n hx hb dX0_gatherLines_72 rfl (lv_at hl 1 rfl) ?_
      refine gg_20_7 hx hb hown E hM hk_20 kw_328 dX0_gatherLines_73 ?_
      refine lv_iload_n hx hb dX0_gatherLines_76 rfl (lv_at hl 3 rfl) ?_
      refine lv_aload_n hx hb dX0_gatherLines_77 rfl (lv_at hl 2 rfl) ?_
      refine lv_iload hx hb dX0_gatherLines_78 (lv_at hl 5 rfl) ?_
      obtain ⟨q9, hq9, h⟩ := gbind_e h
      refine g_callV (As := [.int x4]) (rest := [.int x2, .ref (ad 27)]) hx hb (hml.trans hl.1.symm) hown E hM hS hy_X3_lineWeight kw_134 (c_X3_lineWeight hq9) hk_34 dd_34 rfl rfl rfl (Nat.le_of_ble_eq_true rfl) ⟨Nat.le_of_ble_eq_true rfl, Nat.le_of_ble_eq_true rfl⟩ ⟨Nat.le_of_ble_eq_true rfl, Nat.le_of_ble_eq_true rfl⟩ dX0_gatherLines_80 (fun H locs hM hS => ?_)
      obtain ⟨c10, h⟩ := gchk_e h
      refine g_iast hx hb E hM hS hk_27 dd_27 c10 dX0_gatherLines_83 (fun H locs hM hS => ?_)
      refine lv_iinc (v := (x2 + (1 : Int32))) (lv' := [(2, .int (x2 + (1 : Int32))), (5, .int q4), (0, .ref (ad 20)), (1, .ref (ad 34)), (3, .int x3), (4, .int x4)]) hx hb dX0_gatherLines_84 hl (k := 3) rfl rfl (by decide) rfl (fun ls hl => ?_)
      refine lv_iinc (v := (x4 + (1 : Int32))) (lv' := [(4, .int (x4 + (1 : Int32))), (2, .int (x2 + (1 : Int32))), (5, .int q4), (0, .ref (ad 20)), (1, .ref (ad 34)), (3, .int x3)]) hx hb dX0_gatherLines_87 hl (k := 5) rfl rfl (by decide) rfl (fun ls hl => ?_)
      refine lv_goto (tgt := 22) hx hb dX0_gatherLines_90 (by decide) ?_
      exact kc _ (Option.some.inj h).symm hM hS (lv_sub hl [3, 4, 1, 5, 0] rfl)
set_option maxHeartbeats 4000000 in
theorem wl_X0_gatherLines_22 {p : Program} {l : Launch} {e : Env} {s : State} {m : MethodId} {args : Array Value} {below : List Frame} {meth : Method} {c : Code} {D : va_G} {cy : Nat → ClassId} {ad : Nat → Nat} {base : gBs} {x3 : Int32} {r : Int32 × gM} {RES : gM} (F : gF p s m meth c cX0_gatherLines RX0 6 none) (E : gEnv l D cy ad base s) (kx : ∀ (t : Int32 × gM) {H : Heap} {locs : List Loc} {ls : Array Slot}, r = t → gW gFull D cy ad base t.2 H → va_S (gA base) s.heap H locs → lv_has ls 6 [(0, .ref (ad 20)), (1, .ref (ad 34)), (2, .int t.1), (3, .int x3)] → W p l e ({ frames := 4, cells := 0, slots := 0, locals := 90 } : Room) s m args below meth c H locs 0 0 (MQ below (gQ none gFull D cy ad base RES) args s 0 0 (gA base)) (F0 m 93 ls []))  : ∀ (n : Nat) (x2 : Int32) (x4 : Int32) (μ : gM), gloop (fun t => b_X0_gatherLines_22 x3 t.1 t.2.1 t.2.2) n (x2, x4, μ) = some r → ∀ {H : Heap} {locs : List Loc} {ls : Array Slot}, gW gFull D cy ad base μ H → va_S (gA base) s.heap H locs → lv_has ls 6 [(0, .ref (ad 20)), (1, .ref (ad 34)), (2, .int x2), (3, .int x3), (4, .int x4)] → W p l e ({ frames := 4, cells := 0, slots := 0, locals := 90 } : Room) s m args below meth c H locs 0 0 (MQ below (gQ none gFull D cy ad base RES) args s 0 0 (gA base)) (F0 m 22 ls []) := by
  intro n
  induction n with
  | zero =>
    intro x2 x4 μ h
    exact (gloop_0 h).elim
  | succ n ih =>
    intro x2 x4 μ h H locs ls hM hS hl
    obtain ⟨o, h0, hc, hq⟩ := gloop_s h
    have h1 : b_X0_gatherLines_22 x3 x2 x4 μ = some o := h0
    exact wb_X0_gatherLines_22 h1 F E (fun t H locs ls ho hM hS hl => ih t.1 t.2.1 t.2.2 (hc t ho) hM hS hl) (fun t H locs ls ho hM hS hl => kx t (hq _ ho).symm hM hS hl) hM hS hl
def b_X0_gatherLines_4 (x2 : Int32) (x3 : Int32) (μ : gM) : Option ((Int32 × Int32 × gM) ⊕ (Int32 × gM)) :=
  if ((gi μ 34 1) ≤ x3) then some (.inr (x2, μ)) else gchk (gIn x3 17) (Option.bind (gloop (fun t => b_X0_gatherLines_22 x3 t.1 t.2.1 t.2.2) gFuel (x2, (0 : Int32), (si μ 24 x3.toNatClampNeg x2))) (fun q11 => some (.inl (q11.1, (x3 + (1 : Int32)), q11.2))))
set_option maxHeartbeats 4000000 in
set_option maxRecDepth 100000 in
theorem wb_X0_gatherLines_4 {p : Program} {l : Launch} {e : Env} {s : State} {m : MethodId} {args : Array Value} {below : List Frame} {meth : Method} {c : Code} {D : va_G} {cy : Nat → ClassId} {ad : Nat → Nat} {base : gBs} {x2 : Int32} {x3 : Int32} {μ : gM} {o : (Int32 × Int32 × gM) ⊕ (Int32 × gM)} {RES : gM} (h : b_X0_gatherLines_4 x2 x3 μ = some o) (F : gF p s m meth c cX0_gatherLines RX0 6 none) (E : gEnv l D cy ad base s) (kc : ∀ (t : Int32 × Int32 × gM) {H : Heap} {locs : List Loc} {ls : Array Slot}, o = .inl t → gW gFull D cy ad base t.2.2 H → va_S (gA base) s.heap H locs → lv_has ls 6 [(0, .ref (ad 20)), (1, .ref (ad 34)), (2, .int t.1), (3, .int t.2.1)] → W p l e ({ frames := 4, cells := 0, slots := 0, locals := 90 } : Room) s m args below meth c H locs 0 0 (MQ below (gQ none gFull D cy ad base RES) args s 0 0 (gA base)) (F0 m 4 ls [])) (kx : ∀ (t : Int32 × gM) {H : Heap} {locs : List Loc} {ls : Array Slot}, o = .inr t → gW gFull D cy ad base t.2 H → va_S (gA base) s.heap H locs → lv_has ls 6 [(0, .ref (ad 20)), (1, .ref (ad 34)), (2, .int t.1)] → W p l e ({ frames := 4, cells := 0, slots := 0, locals := 90 } : Room) s m args below meth c H locs 0 0 (MQ below (gQ none gFull D cy ad base RES) args s 0 0 (gA base)) (F0 m 99 ls []))  {H : Heap} {locs : List Loc} {ls : Array Slot} (hM : gW gFull D cy ad base μ H) (hS : va_S (gA base) s.heap H locs) (hl : lv_has ls 6 [(0, .ref (ad 20)), (1, .ref (ad 34)), (2, .int x2), (3, .int x3)]) : W p l e ({ frames := 4, cells := 0, slots := 0, locals := 90 } : Room) s m args below meth c H locs 0 0 (MQ below (gQ none gFull D cy ad base RES) args s 0 0 (gA base)) (F0 m 4 ls []) := by
  obtain ⟨hx, hb, hml, hown, hlocks, hr⟩ := id F
  unfold b_X0_gatherLines_4 at h
  refine lv_iload_n hx hb dX0_gatherLines_4 rfl (lv_at hl 3 rfl) ?_
  refine lv_aload_n hx hb dX0_gatherLines_5 rfl (lv_at hl 1 rfl) ?_
  refine gg_34_1 hx hb hown E hM hk_34 kw_393 dX0_gatherLines_6 ?_
  refine lv_icmp_ge (tgt := 99) hx hb dX0_gatherLines_9 (by decide) (fun c1 => ?_) (fun c1 => ?_)
  · replace h := gif_t c1 h
    exact kx _ (Option.some.inj h).symm hM hS (lv_sub hl [0, 1, 2] rfl)
  · replace h := gif_f c1 h
    refine lv_aload_n hx hb dX0_gatherLines_12 rfl (lv_at hl 0 rfl) ?_
    refine gg_20_4 hx hb hown E hM hk_20 kw_325 dX0_gatherLines_13 ?_
    refine lv_iload_n hx hb dX0_gatherLines_16 rfl (lv_at hl 3 rfl) ?_
    refine lv_iload_n hx hb dX0_gatherLines_17 rfl (lv_at hl 2 rfl) ?_
    obtain ⟨c2, h⟩ := gchk_e h
    refine g_iast hx hb E hM hS hk_24 dd_24 c2 dX0_gatherLines_18 (fun H locs hM hS => ?_)
    refine lv_iconst (v := (0 : Int32)) hx hb dX0_gatherLines_19 (by decide) ?_
    refine lv_istore (lv' := [(4, .int (0 : Int32)), (0, .ref (ad 20)), (1, .ref (ad 34)), (2, .int x2), (3, .int x3)]) hx hb dX0_gatherLines_20 hl (by decide) rfl (fun ls hl => ?_)
    obtain ⟨z12, h1, h⟩ := gbind_e h
    refine wl_X0_gatherLines_22 F E (r := z12) (fun q11 H locs ls e1 hM hS hl => ?_) gFuel x2 (0 : Int32) (si μ 24 x3.toNatClampNeg x2) h1 hM hS (lv_sub hl [1, 2, 3, 4, 0] rfl)
    replace e1 : z12 = q11 := e1
    rw [e1] at h
    refine lv_iinc (v := (x3 + (1 : Int32))) (lv' := [(3, .int (x3 + (1 : Int32))), (0, .ref (ad 20)), (1, .ref (ad 34)), (2, .int q11.1)]) hx hb dX0_gatherLines_93 hl (k := 3) rfl rfl (by decide) rfl (fun ls hl => ?_)
    refine lv_goto (tgt := 4) hx hb dX0_gatherLines_96 (by decide) ?_
    exact kc _ (Option.some.inj h).symm hM hS (lv_sub hl [1, 2, 3, 0] rfl)
set_option maxHeartbeats 4000000 in
theorem wl_X0_gatherLines_4 {p : Program} {l : Launch} {e : Env} {s : State} {m : MethodId} {args : Array Value} {below : List Frame} {meth : Method} {c : Code} {D : va_G} {cy : Nat → ClassId} {ad : Nat → Nat} {base : gBs}  {r : Int32 × gM} {RES : gM} (F : gF p s m meth c cX0_gatherLines RX0 6 none) (E : gEnv l D cy ad base s) (kx : ∀ (t : Int32 × gM) {H : Heap} {locs : List Loc} {ls : Array Slot}, r = t → gW gFull D cy ad base t.2 H → va_S (gA base) s.heap H locs → lv_has ls 6 [(0, .ref (ad 20)), (1, .ref (ad 34)), (2, .int t.1)] → W p l e ({ frames := 4, cells := 0, slots := 0, locals := 90 } : Room) s m args below meth c H locs 0 0 (MQ below (gQ none gFull D cy ad base RES) args s 0 0 (gA base)) (F0 m 99 ls []))  : ∀ (n : Nat) (x2 : Int32) (x3 : Int32) (μ : gM), gloop (fun t => b_X0_gatherLines_4  t.1 t.2.1 t.2.2) n (x2, x3, μ) = some r → ∀ {H : Heap} {locs : List Loc} {ls : Array Slot}, gW gFull D cy ad base μ H → va_S (gA base) s.heap H locs → lv_has ls 6 [(0, .ref (ad 20)), (1, .ref (ad 34)), (2, .int x2), (3, .int x3)] → W p l e ({ frames := 4, cells := 0, slots := 0, locals := 90 } : Room) s m args below meth c H locs 0 0 (MQ below (gQ none gFull D cy ad base RES) args s 0 0 (gA base)) (F0 m 4 ls []) := by
  intro n
  induction n with
  | zero =>
    intro x2 x3 μ h
    exact (gloop_0 h).elim
  | succ n ih =>
    intro x2 x3 μ h H locs ls hM hS hl
    obtain ⟨o, h0, hc, hq⟩ := gloop_s h
    have h1 : b_X0_gatherLines_4 x2 x3 μ = some o := h0
    exact wb_X0_gatherLines_4 h1 F E (fun t H locs ls ho hM hS hl => ih t.1 t.2.1 t.2.2 (hc t ho) hM hS hl) (fun t H locs ls ho hM hS hl => kx t (hq _ ho).symm hM hS hl) hM hS hl
def f_X0_gatherLines (μ : gM) : Option (gM) :=
  Option.bind (gloop (fun t => b_X0_gatherLines_4  t.1 t.2.1 t.2.2) gFuel ((0 : Int32), (0 : Int32), μ)) (fun q13 => gchk (gIn (gi q13.2 34 1) 17) (some (si q13.2 24 (gi q13.2 34 1).toNatClampNeg q13.1)))
set_option maxHeartbeats 4000000 in
set_option maxRecDepth 100000 in
theorem c_X0_gatherLines {l : Launch} {D : va_G} {cy : Nat → ClassId} {ad : Nat → Nat} {base : gBs}  {μ : gM} {RES : gM} (h : f_X0_gatherLines  μ = some RES) : Met l yX0_gatherLines [.code yX0_gatherLines cX0_gatherLines 6 none] ({ frames := 4, cells := 0, slots := 0, locals := 90 } : Room) (va_Pc [.ref (ad 20), .ref (ad 34)] (gB l gFull D cy ad base μ)) (gQ none gFull D cy ad base RES) 0 0 (gA base) := by
  refine Met.ofW (cc := cX0_gatherLines) (maxL := 6) (ret := none) (by decide) rfl ?_
  intro p e s m args below meth c s₁ B hml0 hv
  obtain ⟨rfl, E, hM⟩ := hv
  have F : gF p s m meth c cX0_gatherLines RX0 6 none := gF_of B hml0
  obtain ⟨hx, hb, hml, hown, hlocks, hr⟩ := id F
  have hS : va_S (gA base) s.heap s.heap [] := va_S.rf
  have hl := lv_entry ([.ref (ad 20), .ref (ad 34)]) (n := 6) (Nat.le_of_ble_eq_true rfl)
  rw [lg_entry_eq]
  generalize (lg_sl ([.ref (ad 20), .ref (ad 34)]) ++ List.replicate (6 - (lg_sl ([.ref (ad 20), .ref (ad 34)])).length) Slot.unset).toArray = ls at hl ⊢
  have hl : lv_has ls 6 [(0, .ref (ad 20)), (1, .ref (ad 34))] := hl
  unfold f_X0_gatherLines at h
  refine lv_iconst (v := (0 : Int32)) hx hb dX0_gatherLines_0 (by decide) ?_
  refine lv_istore_n (lv' := [(2, .int (0 : Int32)), (0, .ref (ad 20)), (1, .ref (ad 34))]) hx hb dX0_gatherLines_1 rfl hl (by decide) rfl (fun ls hl => ?_)
  refine lv_iconst (v := (0 : Int32)) hx hb dX0_gatherLines_2 (by decide) ?_
  refine lv_istore_n (lv' := [(3, .int (0 : Int32)), (2, .int (0 : Int32)), (0, .ref (ad 20)), (1, .ref (ad 34))]) hx hb dX0_gatherLines_3 rfl hl (by decide) rfl (fun ls hl => ?_)
  obtain ⟨z15, h1, h⟩ := gbind_e h
  refine wl_X0_gatherLines_4 F E (r := z15) (fun q13 H locs ls e1 hM hS hl => ?_) gFuel (0 : Int32) (0 : Int32) μ h1 hM hS (lv_sub hl [2, 3, 1, 0] rfl)
  replace e1 : z15 = q13 := e1
  rw [e1] at h
  refine lv_aload_n hx hb dX0_gatherLines_99 rfl (lv_at hl 0 rfl) ?_
  refine gg_20_4 hx hb hown E hM hk_20 kw_325 dX0_gatherLines_100 ?_
  refine lv_aload_n hx hb dX0_gatherLines_103 rfl (lv_at hl 1 rfl) ?_
  refine gg_34_1 hx hb hown E hM hk_34 kw_393 dX0_gatherLines_104 ?_
  refine lv_iload_n hx hb dX0_gatherLines_107 rfl (lv_at hl 2 rfl) ?_
  obtain ⟨c14, h⟩ := gchk_e h
  refine g_iast hx hb E hM hS hk_24 dd_24 c14 dX0_gatherLines_108 (fun H locs hM hS => ?_)
  obtain rfl := Option.some.inj h
  exact g_vret hx hb hr hlocks hM hS dX0_gatherLines_109
def b_X0_weightedMean_13 (x1 : Int32) (x2 : Int64) (x4 : Int64) (x6 : Int32) (μ : gM) : Option ((Int64 × Int64 × Int32) ⊕ (Int64 × Int64)) :=
  gchk (gIn (x1 + (1 : Int32)) 17) (if ((gi μ 24 (x1 + (1 : Int32)).toNatClampNeg) ≤ x6) then some (.inr (x2, x4)) else gchk (gIn x6 40) (gchk (gIn x6 40) (gchk (gIn (gi μ 25 x6.toNatClampNeg) 16) (gchk (gIn x6 40) (gchk (gIn x6 40) (some (.inl ((x2 + ((gi μ 27 x6.toNatClampNeg).toInt64 * ((gl μ 22 (gi μ 25 x6.toNatClampNeg).toNatClampNeg) + (gi μ 26 x6.toNatClampNeg).toInt64))), (x4 + (gi μ 27 x6.toNatClampNeg).toInt64), (x6 + (1 : Int32))))))))))
set_option maxHeartbeats 4000000 in
set_option maxRecDepth 100000 in
theorem wb_X0_weightedMean_13 {p : Program} {l : Launch} {e : Env} {s : State} {m : MethodId} {args : Array Value} {below : List Frame} {meth : Method} {c : Code} {D : va_G} {cy : Nat → ClassId} {ad : Nat → Nat} {base : gBs} {x1 : Int32} {x2 : Int64} {x4 : Int64} {x6 : Int32} {μ : gM} {o : (Int64 × Int64 × Int32) ⊕ (Int64 × Int64)} {RES : Int64} (h : b_X0_weightedMean_13 x1 x2 x4 x6 μ = some o) (F : gF p s m meth c cX0_weightedMean RX0 7 (some .long)) (E : gEnv l D cy ad base s) (kc : ∀ (t : Int64 × Int64 × Int32) {H : Heap} {locs : List Loc} {ls : Array Slot}, o = .inl t → gW gFull D cy ad base μ H → va_S (gA base) s.heap H locs → lv_has ls 7 [(0, .ref (ad 20)), (1, .int x1), (2, .long t.1), (4, .long t.2.1), (6, .int t.2.2)] → W p l e ({ frames := 1, cells := 0, slots := 0, locals := 25 } : Room) s m args below meth c H locs 0 0 (MQ below (gQ (some (.long RES)) gFull D cy ad base μ) args s 0 0 (gA base)) (F0 m 13 ls [])) (kx : ∀ (t : Int64 × Int64) {H : Heap} {locs : List Loc} {ls : Array Slot}, o = .inr t → gW gFull D cy ad base μ H → va_S (gA base) s.heap H locs → lv_has ls 7 [(0, .ref (ad 20)), (1, .int x1), (2, .long t.1), (4, .long t.2)] → W p l e ({ frames := 1, cells := 0, slots := 0, locals := 25 } : Room) s m args below meth c H locs 0 0 (MQ below (gQ (some (.long RES)) gFull D cy ad base μ) args s 0 0 (gA base)) (F0 m 78 ls []))  {H : Heap} {locs : List Loc} {ls : Array Slot} (hM : gW gFull D cy ad base μ H) (hS : va_S (gA base) s.heap H locs) (hl : lv_has ls 7 [(0, .ref (ad 20)), (1, .int x1), (2, .long x2), (4, .long x4), (6, .int x6)]) : W p l e ({ frames := 1, cells := 0, slots := 0, locals := 25 } : Room) s m args below meth c H locs 0 0 (MQ below (gQ (some (.long RES)) gFull D cy ad base μ) args s 0 0 (gA base)) (F0 m 13 ls []) := by
  obtain ⟨hx, hb, hml, hown, hlocks, hr⟩ := id F
  unfold b_X0_weightedMean_13 at h
  refine lv_iload hx hb dX0_weightedMean_13 (lv_at hl 4 rfl) ?_
  refine lv_aload_n hx hb dX0_weightedMean_15 rfl (lv_at hl 0 rfl) ?_
  refine gg_20_4 hx hb hown E hM hk_20 kw_325 dX0_weightedMean_16 ?_
  refine lv_iload_n hx hb dX0_weightedMean_19 rfl (lv_at hl 1 rfl) ?_
  refine lv_iconst (v := (1 : Int32)) hx hb dX0_weightedMean_20 (by decide) ?_
  refine lv_iadd hx hb dX0_weightedMean_21 ?_
  obtain ⟨c2, h⟩ := gchk_e h
  refine g_iald hx hb E hM hk_24 dd_24 c2 dX0_weightedMean_22 ?_
  refine lv_icmp_ge (tgt := 78) hx hb dX0_weightedMean_23 (by decide) (fun c3 => ?_) (fun c3 => ?_)
  · replace h := gif_t c3 h
    exact kx _ (Option.some.inj h).symm hM hS (lv_sub hl [0, 1, 2, 3] rfl)
  · replace h := gif_f c3 h
    refine lv_lload_n hx hb dX0_weightedMean_26 rfl (lv_at hl 2 rfl) ?_
    refine lv_aload_n hx hb dX0_weightedMean_27 rfl (lv_at hl 0 rfl) ?_
    refine gg_20_7 hx hb hown E hM hk_20 kw_328 dX0_weightedMean_28 ?_
    refine lv_iload hx hb dX0_weightedMean_31 (lv_at hl 4 rfl) ?_
    obtain ⟨c4, h⟩ := gchk_e h
    refine g_iald hx hb E hM hk_27 dd_27 c4 dX0_weightedMean_33 ?_
    refine lv_i2l (v := (gi μ 27 x6.toNatClampNeg).toInt64) hx hb dX0_weightedMean_34 rfl ?_
    refine lv_aload_n hx hb dX0_weightedMean_35 rfl (lv_at hl 0 rfl) ?_
    refine gg_20_1 hx hb hown E hM hk_20 kw_319 dX0_weightedMean_36 ?_
    refine lv_aload_n hx hb dX0_weightedMean_39 rfl (lv_at hl 0 rfl) ?_
    refine gg_20_5 hx hb hown E hM hk_20 kw_326 dX0_weightedMean_40 ?_
    refine lv_iload hx hb dX0_weightedMean_43 (lv_at hl 4 rfl) ?_
    obtain ⟨c5, h⟩ := gchk_e h
    refine g_iald hx hb E hM hk_25 dd_25 c5 dX0_weightedMean_45 ?_
    obtain ⟨c6, h⟩ := gchk_e h
    refine g_lald hx hb E hM hk_22 dd_22 c6 dX0_weightedMean_46 ?_
    refine lv_aload_n hx hb dX0_weightedMean_47 rfl (lv_at hl 0 rfl) ?_
    refine gg_20_6 hx hb hown E hM hk_20 kw_327 dX0_weightedMean_48 ?_
    refine lv_iload hx hb dX0_weightedMean_51 (lv_at hl 4 rfl) ?_
    obtain ⟨c7, h⟩ := gchk_e h
    refine g_iald hx hb E hM hk_26 dd_26 c7 dX0_weightedMean_53 ?_
    refine lv_i2l (v := (gi μ 26 x6.toNatClampNeg).toInt64) hx hb dX0_weightedMean_54 rfl ?_
    refine lv_ladd hx hb dX0_weightedMean_55 ?_
    refine lv_lmul hx hb dX0_weightedMean_56 ?_
    refine lv_ladd hx hb dX0_weightedMean_57 ?_
    refine lv_lstore_n (lv' := [(2, .long (x2 + ((gi μ 27 x6.toNatClampNeg).toInt64 * ((gl μ 22 (gi μ 25 x6.toNatClampNeg).toNatClampNeg) + (gi μ 26 x6.toNatClampNeg).toInt64)))), (0, .ref (ad 20)), (1, .int x1), (4, .long x4), (6, .int x6)]) hx hb dX0_weightedMean_58 rfl hl (by decide) rfl (fun ls hl => ?_)
    refine lv_lload hx hb dX0_weightedMean_59 (lv_at hl 3 rfl) ?_
    refine lv_aload_n hx hb dX0_weightedMean_61 rfl (lv_at hl 1 rfl) ?_
    refine gg_20_7 hx hb hown E hM hk_20 kw_328 dX0_weightedMean_62 ?_
    refine lv_iload hx hb dX0_weightedMean_65 (lv_at hl 4 rfl) ?_
    obtain ⟨c8, h⟩ := gchk_e h
    refine g_iald hx hb E hM hk_27 dd_27 c8 dX0_weightedMean_67 ?_
    refine lv_i2l (v := (gi μ 27 x6.toNatClampNeg).toInt64) hx hb dX0_weightedMean_68 rfl ?_
    refine lv_ladd hx hb dX0_weightedMean_69 ?_
    refine lv_lstore (lv' := [(4, .long (x4 + (gi μ 27 x6.toNatClampNeg).toInt64)), (2, .long (x2 + ((gi μ 27 x6.toNatClampNeg).toInt64 * ((gl μ 22 (gi μ 25 x6.toNatClampNeg).toNatClampNeg) + (gi μ 26 x6.toNatClampNeg).toInt64)))), (0, .ref (ad 20)), (1, .int x1), (6, .int x6)]) hx hb dX0_weightedMean_70 hl (by decide) rfl (fun ls hl => ?_)
    refine lv_iinc (v := (x6 + (1 : Int32))) (lv' := [(6, .int (x6 + (1 : Int32))), (4, .long (x4 + (gi μ 27 x6.toNatClampNeg).toInt64)), (2, .long (x2 + ((gi μ 27 x6.toNatClampNeg).toInt64 * ((gl μ 22 (gi μ 25 x6.toNatClampNeg).toNatClampNeg) + (gi μ 26 x6.toNatClampNeg).toInt64)))), (0, .ref (ad 20)), (1, .int x1)]) hx hb dX0_weightedMean_72 hl (k := 4) rfl rfl (by decide) rfl (fun ls hl => ?_)
    refine lv_goto (tgt := 13) hx hb dX0_weightedMean_75 (by decide) ?_
    exact kc _ (Option.some.inj h).symm hM hS (lv_sub hl [3, 4, 2, 1, 0] rfl)
set_option maxHeartbeats 4000000 in
theorem wl_X0_weightedMean_13 {p : Program} {l : Launch} {e : Env} {s : State} {m : MethodId} {args : Array Value} {below : List Frame} {meth : Method} {c : Code} {D : va_G} {cy : Nat → ClassId} {ad : Nat → Nat} {base : gBs} {x1 : Int32} {μ : gM} {r : Int64 × Int64} {RES : Int64} (F : gF p s m meth c cX0_weightedMean RX0 7 (some .long)) (E : gEnv l D cy ad base s) (kx : ∀ (t : Int64 × Int64) {H : Heap} {locs : List Loc} {ls : Array Slot}, r = t → gW gFull D cy ad base μ H → va_S (gA base) s.heap H locs → lv_has ls 7 [(0, .ref (ad 20)), (1, .int x1), (2, .long t.1), (4, .long t.2)] → W p l e ({ frames := 1, cells := 0, slots := 0, locals := 25 } : Room) s m args below meth c H locs 0 0 (MQ below (gQ (some (.long RES)) gFull D cy ad base μ) args s 0 0 (gA base)) (F0 m 78 ls []))  : ∀ (n : Nat) (x2 : Int64) (x4 : Int64) (x6 : Int32), gloop (fun t => b_X0_weightedMean_13 x1 t.1 t.2.1 t.2.2 μ) n (x2, x4, x6) = some r → ∀ {H : Heap} {locs : List Loc} {ls : Array Slot}, gW gFull D cy ad base μ H → va_S (gA base) s.heap H locs → lv_has ls 7 [(0, .ref (ad 20)), (1, .int x1), (2, .long x2), (4, .long x4), (6, .int x6)] → W p l e ({ frames := 1, cells := 0, slots := 0, locals := 25 } : Room) s m args below meth c H locs 0 0 (MQ below (gQ (some (.long RES)) gFull D cy ad base μ) args s 0 0 (gA base)) (F0 m 13 ls []) := by
  intro n
  induction n with
  | zero =>
    intro x2 x4 x6 h
    exact (gloop_0 h).elim
  | succ n ih =>
    intro x2 x4 x6 h H locs ls hM hS hl
    obtain ⟨o, h0, hc, hq⟩ := gloop_s h
    have h1 : b_X0_weightedMean_13 x1 x2 x4 x6 μ = some o := h0
    exact wb_X0_weightedMean_13 h1 F E (fun t H locs ls ho hM hS hl => ih t.1 t.2.1 t.2.2 (hc t ho) hM hS hl) (fun t H locs ls ho hM hS hl => kx t (hq _ ho).symm hM hS hl) hM hS hl
def f_X0_weightedMean (p1 : Int32) (μ : gM) : Option (Int64) :=
  gchk (gIn p1 17) (Option.bind (gloop (fun t => b_X0_weightedMean_13 p1 t.1 t.2.1 t.2.2 μ) gFuel ((0 : Int64), (0 : Int64), (gi μ 24 p1.toNatClampNeg))) (fun q9 => if (q9.2 ≤ (0 : Int64)) then gchk (gIn p1 16) (some (gl μ 22 p1.toNatClampNeg)) else Option.bind (f_J9_floorDiv_f86c9 (((2 : Int64) * q9.1) + q9.2) ((2 : Int64) * q9.2) μ) (fun q12 => some q12)))
set_option maxHeartbeats 4000000 in
set_option maxRecDepth 100000 in
theorem c_X0_weightedMean {l : Launch} {D : va_G} {cy : Nat → ClassId} {ad : Nat → Nat} {base : gBs} {p1 : Int32} {μ : gM} {RES : Int64} (h : f_X0_weightedMean p1 μ = some RES) : Met l yX0_weightedMean [.code yX0_weightedMean cX0_weightedMean 7 (some .long)] ({ frames := 1, cells := 0, slots := 0, locals := 25 } : Room) (va_Pc [.ref (ad 20), .int p1] (gB l gFull D cy ad base μ)) (gQ (some (.long RES)) gFull D cy ad base μ) 0 0 (gA base) := by
  refine Met.ofW (cc := cX0_weightedMean) (maxL := 7) (ret := (some .long)) (by decide) rfl ?_
  intro p e s m args below meth c s₁ B hml0 hv
  obtain ⟨rfl, E, hM⟩ := hv
  have F : gF p s m meth c cX0_weightedMean RX0 7 (some .long) := gF_of B hml0
  obtain ⟨hx, hb, hml, hown, hlocks, hr⟩ := id F
  have hS : va_S (gA base) s.heap s.heap [] := va_S.rf
  have hl := lv_entry ([.ref (ad 20), .int p1]) (n := 7) (Nat.le_of_ble_eq_true rfl)
  rw [lg_entry_eq]
  generalize (lg_sl ([.ref (ad 20), .int p1]) ++ List.replicate (7 - (lg_sl ([.ref (ad 20), .int p1])).length) Slot.unset).toArray = ls at hl ⊢
  have hl : lv_has ls 7 [(0, .ref (ad 20)), (1, .int p1)] := hl
  unfold f_X0_weightedMean at h
  refine lv_lconst (v := (0 : Int64)) hx hb dX0_weightedMean_0 (by decide) ?_
  refine lv_lstore_n (lv' := [(2, .long (0 : Int64)), (0, .ref (ad 20)), (1, .int p1)]) hx hb dX0_weightedMean_1 rfl hl (by decide) rfl (fun ls hl => ?_)
  refine lv_lconst (v := (0 : Int64)) hx hb dX0_weightedMean_2 (by decide) ?_
  refine lv_lstore (lv' := [(4, .long (0 : Int64)), (2, .long (0 : Int64)), (0, .ref (ad 20)), (1, .int p1)]) hx hb dX0_weightedMean_3 hl (by decide) rfl (fun ls hl => ?_)
  refine lv_aload_n hx hb dX0_weightedMean_5 rfl (lv_at hl 2 rfl) ?_
  refine gg_20_4 hx hb hown E hM hk_20 kw_325 dX0_weightedMean_6 ?_
  refine lv_iload_n hx hb dX0_weightedMean_9 rfl (lv_at hl 3 rfl) ?_
  obtain ⟨c1, h⟩ := gchk_e h
  refine g_iald hx hb E hM hk_24 dd_24 c1 dX0_weightedMean_10 ?_
  refine lv_istore (lv' := [(6, .int (gi μ 24 p1.toNatClampNeg)), (4, .long (0 : Int64)), (2, .long (0 : Int64)), (0, .ref (ad 20)), (1, .int p1)]) hx hb dX0_weightedMean_11 hl (by decide) rfl (fun ls hl => ?_)
  obtain ⟨z13, h1, h⟩ := gbind_e h
  refine wl_X0_weightedMean_13 F E (r := z13) (fun q9 H locs ls e1 hM hS hl => ?_) gFuel (0 : Int64) (0 : Int64) (gi μ 24 p1.toNatClampNeg) h1 hM hS (lv_sub hl [3, 4, 2, 1, 0] rfl)
  replace e1 : z13 = q9 := e1
  rw [e1] at h
  refine lv_lload hx hb dX0_weightedMean_78 (lv_at hl 3 rfl) ?_
  refine lv_lconst (v := (0 : Int64)) hx hb dX0_weightedMean_80 (by decide) ?_
  refine W.lcmp hx hb dX0_weightedMean_81 ?_
  refine lv_if_le (tgt := 105) hx hb dX0_weightedMean_82 (by decide) (fun c10 => ?_) (fun c10 => ?_)
  · replace c10 := (lg_cmp_le _ _).mp c10
    replace h := gif_t c10 h
    refine lv_aload_n hx hb dX0_weightedMean_105 rfl (lv_at hl 0 rfl) ?_
    refine gg_20_1 hx hb hown E hM hk_20 kw_319 dX0_weightedMean_106 ?_
    refine lv_iload_n hx hb dX0_weightedMean_109 rfl (lv_at hl 1 rfl) ?_
    obtain ⟨c11, h⟩ := gchk_e h
    refine g_lald hx hb E hM hk_22 dd_22 c11 dX0_weightedMean_110 ?_
    obtain rfl := Option.some.inj h
    exact g_lret hx hb hr hlocks hM hS dX0_weightedMean_111
  · replace c10 := fun w => c10 ((lg_cmp_le _ _).mpr w)
    replace h := gif_f c10 h
    refine lv_ldc2 hx hb hown (v := (2 : Int64)) (E.kw kw_151) dX0_weightedMean_85 ?_
    refine lv_lload_n hx hb dX0_weightedMean_88 rfl (lv_at hl 2 rfl) ?_
    refine lv_lmul hx hb dX0_weightedMean_89 ?_
    refine lv_lload hx hb dX0_weightedMean_90 (lv_at hl 3 rfl) ?_
    refine lv_ladd hx hb dX0_weightedMean_92 ?_
    refine lv_ldc2 hx hb hown (v := (2 : Int64)) (E.kw kw_151) dX0_weightedMean_93 ?_
    refine lv_lload hx hb dX0_weightedMean_96 (lv_at hl 3 rfl) ?_
    refine lv_lmul hx hb dX0_weightedMean_98 ?_
    obtain ⟨q12, hq12, h⟩ := gbind_e h
    refine g_callS (As := [.long (((2 : Int64) * q9.1) + q9.2), .long ((2 : Int64) * q9.2)]) (rest := []) hx hb (hml.trans hl.1.symm) hown E hM hS hy_J9_floorDiv_f86c9 kw_152 (c_J9_floorDiv_f86c9 hq12) rfl rfl (Nat.le_of_ble_eq_true rfl) ⟨Nat.le_of_ble_eq_true rfl, Nat.le_of_ble_eq_true rfl⟩ ⟨Nat.le_of_ble_eq_true rfl, Nat.le_of_ble_eq_true rfl⟩ dX0_weightedMean_99 (fun H locs hM hS => ?_)
    refine lv_goto (tgt := 111) hx hb dX0_weightedMean_102 (by decide) ?_
    obtain rfl := Option.some.inj h
    exact g_lret hx hb hr hlocks hM hS dX0_weightedMean_111
def j_X0_settleOnce_63 (x3 : Int32) (x4 : Int64) (y0 : Int32) (μ : gM) : Option ((Int32 × Int32 × gM) ⊕ (Int32 × gM)) :=
  gchk (gIn x3 16) (some (.inl (y0, (x3 + (1 : Int32)), (sl μ 22 x3.toNatClampNeg x4))))
set_option maxHeartbeats 4000000 in
set_option maxRecDepth 100000 in
theorem wj_X0_settleOnce_63 {p : Program} {l : Launch} {e : Env} {s : State} {m : MethodId} {args : Array Value} {below : List Frame} {meth : Method} {c : Code} {D : va_G} {cy : Nat → ClassId} {ad : Nat → Nat} {base : gBs} {x3 : Int32} {x4 : Int64} {y0 : Int32} {μ : gM} {o : (Int32 × Int32 × gM) ⊕ (Int32 × gM)} {RES : Bool × gM} (h : j_X0_settleOnce_63 x3 x4 y0 μ = some o) (F : gF p s m meth c cX0_settleOnce RX0 6 (some .boolean)) (E : gEnv l D cy ad base s) (kc : ∀ (t : Int32 × Int32 × gM) {H : Heap} {locs : List Loc} {ls : Array Slot}, o = .inl t → gW gFull D cy ad base t.2.2 H → va_S (gA base) s.heap H locs → lv_has ls 6 [(0, .ref (ad 20)), (1, .ref (ad 34)), (2, .int t.1), (3, .int t.2.1)] → W p l e ({ frames := 2, cells := 0, slots := 0, locals := 51 } : Room) s m args below meth c H locs 0 0 (MQ below (gQ (some (.int (b2i RES.1))) gFull D cy ad base RES.2) args s 0 0 (gA base)) (F0 m 4 ls [])) (kx : ∀ (t : Int32 × gM) {H : Heap} {locs : List Loc} {ls : Array Slot}, o = .inr t → gW gFull D cy ad base t.2 H → va_S (gA base) s.heap H locs → lv_has ls 6 [(2, .int t.1)] → W p l e ({ frames := 2, cells := 0, slots := 0, locals := 51 } : Room) s m args below meth c H locs 0 0 (MQ below (gQ (some (.int (b2i RES.1))) gFull D cy ad base RES.2) args s 0 0 (gA base)) (F0 m 78 ls []))  {H : Heap} {locs : List Loc} {ls : Array Slot} (hM : gW gFull D cy ad base μ H) (hS : va_S (gA base) s.heap H locs) (hl : lv_has ls 6 [(0, .ref (ad 20)), (1, .ref (ad 34)), (3, .int x3), (4, .long x4)]) : W p l e ({ frames := 2, cells := 0, slots := 0, locals := 51 } : Room) s m args below meth c H locs 0 0 (MQ below (gQ (some (.int (b2i RES.1))) gFull D cy ad base RES.2) args s 0 0 (gA base)) (F0 m 63 ls [.int y0]) := by
  obtain ⟨hx, hb, hml, hown, hlocks, hr⟩ := id F
  unfold j_X0_settleOnce_63 at h
  refine lv_istore_n (lv' := [(2, .int y0), (0, .ref (ad 20)), (1, .ref (ad 34)), (3, .int x3), (4, .long x4)]) hx hb dX0_settleOnce_63 rfl hl (by decide) rfl (fun ls hl => ?_)
  refine lv_aload_n hx hb dX0_settleOnce_64 rfl (lv_at hl 1 rfl) ?_
  refine gg_20_1 hx hb hown E hM hk_20 kw_319 dX0_settleOnce_65 ?_
  refine lv_iload_n hx hb dX0_settleOnce_68 rfl (lv_at hl 3 rfl) ?_
  refine lv_lload hx hb dX0_settleOnce_69 (lv_at hl 4 rfl) ?_
  obtain ⟨c8, h⟩ := gchk_e h
  refine g_last hx hb E hM hS hk_22 dd_22 c8 dX0_settleOnce_71 (fun H locs hM hS => ?_)
  refine lv_iinc (v := (x3 + (1 : Int32))) (lv' := [(3, .int (x3 + (1 : Int32))), (2, .int y0), (0, .ref (ad 20)), (1, .ref (ad 34)), (4, .long x4)]) hx hb dX0_settleOnce_72 hl (k := 3) rfl rfl (by decide) rfl (fun ls hl => ?_)
  refine lv_goto (tgt := 4) hx hb dX0_settleOnce_75 (by decide) ?_
  exact kc _ (Option.some.inj h).symm hM hS (lv_sub hl [2, 3, 1, 0] rfl)
def j_X0_settleOnce_58 (x3 : Int32) (x4 : Int64) (μ : gM) : Option ((Int32 × Int32 × gM) ⊕ (Int32 × gM)) :=
  j_X0_settleOnce_63 x3 x4 (1 : Int32) μ
set_option maxHeartbeats 4000000 in
set_option maxRecDepth 100000 in
theorem wj_X0_settleOnce_58 {p : Program} {l : Launch} {e : Env} {s : State} {m : MethodId} {args : Array Value} {below : List Frame} {meth : Method} {c : Code} {D : va_G} {cy : Nat → ClassId} {ad : Nat → Nat} {base : gBs} {x3 : Int32} {x4 : Int64} {μ : gM} {o : (Int32 × Int32 × gM) ⊕ (Int32 × gM)} {RES : Bool × gM} (h : j_X0_settleOnce_58 x3 x4 μ = some o) (F : gF p s m meth c cX0_settleOnce RX0 6 (some .boolean)) (E : gEnv l D cy ad base s) (kc : ∀ (t : Int32 × Int32 × gM) {H : Heap} {locs : List Loc} {ls : Array Slot}, o = .inl t → gW gFull D cy ad base t.2.2 H → va_S (gA base) s.heap H locs → lv_has ls 6 [(0, .ref (ad 20)), (1, .ref (ad 34)), (2, .int t.1), (3, .int t.2.1)] → W p l e ({ frames := 2, cells := 0, slots := 0, locals := 51 } : Room) s m args below meth c H locs 0 0 (MQ below (gQ (some (.int (b2i RES.1))) gFull D cy ad base RES.2) args s 0 0 (gA base)) (F0 m 4 ls [])) (kx : ∀ (t : Int32 × gM) {H : Heap} {locs : List Loc} {ls : Array Slot}, o = .inr t → gW gFull D cy ad base t.2 H → va_S (gA base) s.heap H locs → lv_has ls 6 [(2, .int t.1)] → W p l e ({ frames := 2, cells := 0, slots := 0, locals := 51 } : Room) s m args below meth c H locs 0 0 (MQ below (gQ (some (.int (b2i RES.1))) gFull D cy ad base RES.2) args s 0 0 (gA base)) (F0 m 78 ls []))  {H : Heap} {locs : List Loc} {ls : Array Slot} (hM : gW gFull D cy ad base μ H) (hS : va_S (gA base) s.heap H locs) (hl : lv_has ls 6 [(0, .ref (ad 20)), (1, .ref (ad 34)), (3, .int x3), (4, .long x4)]) : W p l e ({ frames := 2, cells := 0, slots := 0, locals := 51 } : Room) s m args below meth c H locs 0 0 (MQ below (gQ (some (.int (b2i RES.1))) gFull D cy ad base RES.2) args s 0 0 (gA base)) (F0 m 58 ls []) := by
  obtain ⟨hx, hb, hml, hown, hlocks, hr⟩ := id F
  unfold j_X0_settleOnce_58 at h
  refine lv_iconst (v := (1 : Int32)) hx hb dX0_settleOnce_58 (by decide) ?_
  refine lv_goto (tgt := 63) hx hb dX0_settleOnce_59 (by decide) ?_
  exact wj_X0_settleOnce_63 h F E kc kx hM hS hl
def b_X0_settleOnce_4 (x2 : Int32) (x3 : Int32) (μ : gM) : Option ((Int32 × Int32 × gM) ⊕ (Int32 × gM)) :=
  if ((gi μ 34 1) ≤ x3) then some (.inr (x2, μ)) else gchk (gIn x3 16) (if ((gl μ 22 x3.toNatClampNeg) = (-9223372036854775808 : Int64)) then some (.inl (x2, (x3 + (1 : Int32)), μ)) else gchk (gIn x3 16) (if ((gi μ 39 x3.toNatClampNeg) = (-1 : Int32)) then Option.bind (f_X0_weightedMean x3 μ) (fun q6 => if (x2 = 0) then gchk (gIn x3 16) (if (q6 = (gl μ 22 x3.toNatClampNeg)) then j_X0_settleOnce_63 x3 q6 (0 : Int32) μ else j_X0_settleOnce_58 x3 q6 μ) else j_X0_settleOnce_58 x3 q6 μ) else some (.inl (x2, (x3 + (1 : Int32)), μ))))
set_option maxHeartbeats 4000000 in
set_option maxRecDepth 100000 in
theorem wb_X0_settleOnce_4 {p : Program} {l : Launch} {e : Env} {s : State} {m : MethodId} {args : Array Value} {below : List Frame} {meth : Method} {c : Code} {D : va_G} {cy : Nat → ClassId} {ad : Nat → Nat} {base : gBs} {x2 : Int32} {x3 : Int32} {μ : gM} {o : (Int32 × Int32 × gM) ⊕ (Int32 × gM)} {RES : Bool × gM} (h : b_X0_settleOnce_4 x2 x3 μ = some o) (F : gF p s m meth c cX0_settleOnce RX0 6 (some .boolean)) (E : gEnv l D cy ad base s) (kc : ∀ (t : Int32 × Int32 × gM) {H : Heap} {locs : List Loc} {ls : Array Slot}, o = .inl t → gW gFull D cy ad base t.2.2 H → va_S (gA base) s.heap H locs → lv_has ls 6 [(0, .ref (ad 20)), (1, .ref (ad 34)), (2, .int t.1), (3, .int t.2.1)] → W p l e ({ frames := 2, cells := 0, slots := 0, locals := 51 } : Room) s m args below meth c H locs 0 0 (MQ below (gQ (some (.int (b2i RES.1))) gFull D cy ad base RES.2) args s 0 0 (gA base)) (F0 m 4 ls [])) (kx : ∀ (t : Int32 × gM) {H : Heap} {locs : List Loc} {ls : Array Slot}, o = .inr t → gW gFull D cy ad base t.2 H → va_S (gA base) s.heap H locs → lv_has ls 6 [(2, .int t.1)] → W p l e ({ frames := 2, cells := 0, slots := 0, locals := 51 } : Room) s m args below meth c H locs 0 0 (MQ below (gQ (some (.int (b2i RES.1))) gFull D cy ad base RES.2) args s 0 0 (gA base)) (F0 m 78 ls []))  {H : Heap} {locs : List Loc} {ls : Array Slot} (hM : gW gFull D cy ad base μ H) (hS : va_S (gA base) s.heap H locs) (hl : lv_has ls 6 [(0, .ref (ad 20)), (1, .ref (ad 34)), (2, .int x2), (3, .int x3)]) : W p l e ({ frames := 2, cells := 0, slots := 0, locals := 51 } : Room) s m args below meth c H locs 0 0 (MQ below (gQ (some (.int (b2i RES.1))) gFull D cy ad base RES.2) args s 0 0 (gA base)) (F0 m 4 ls []) := by
  obtain ⟨hx, hb, hml, hown, hlocks, hr⟩ := id F
  unfold b_X0_settleOnce_4 at h
  refine lv_iload_n hx hb dX0_settleOnce_4 rfl (lv_at hl 3 rfl) ?_
  refine lv_aload_n hx hb dX0_settleOnce_5 rfl (lv_at hl 1 rfl) ?_
  refine gg_34_1 hx hb hown E hM hk_34 kw_393 dX0_settleOnce_6 ?_
  refine lv_icmp_ge (tgt := 78) hx hb dX0_settleOnce_9 (by decide) (fun c1 => ?_) (fun c1 => ?_)
  · replace h := gif_t c1 h
    exact kx _ (Option.some.inj h).symm hM hS (lv_sub hl [2] rfl)
  · replace h := gif_f c1 h
    refine lv_aload_n hx hb dX0_settleOnce_12 rfl (lv_at hl 0 rfl) ?_
    refine gg_20_1 hx hb hown E hM hk_20 kw_319 dX0_settleOnce_13 ?_
    refine lv_iload_n hx hb dX0_settleOnce_16 rfl (lv_at hl 3 rfl) ?_
    obtain ⟨c2, h⟩ := gchk_e h
    refine g_lald hx hb E hM hk_22 dd_22 c2 dX0_settleOnce_17 ?_
    refine lv_ldc2 hx hb hown (v := (-9223372036854775808 : Int64)) (E.kw kw_106) dX0_settleOnce_18 ?_
    refine W.lcmp hx hb dX0_settleOnce_21 ?_
    refine lv_if_eq (tgt := 72) hx hb dX0_settleOnce_22 (by decide) (fun c3 => ?_) (fun c3 => ?_)
    · replace c3 := (lg_cmp_eq _ _).mp c3
      replace h := gif_t c3 h
      refine lv_iinc (v := (x3 + (1 : Int32))) (lv' := [(3, .int (x3 + (1 : Int32))), (0, .ref (ad 20)), (1, .ref (ad 34)), (2, .int x2)]) hx hb dX0_settleOnce_72 hl (k := 3) rfl rfl (by decide) rfl (fun ls hl => ?_)
      refine lv_goto (tgt := 4) hx hb dX0_settleOnce_75 (by decide) ?_
      exact kc _ (Option.some.inj h).symm hM hS (lv_sub hl [1, 2, 3, 0] rfl)
    · replace c3 := fun w => c3 ((lg_cmp_eq _ _).mpr w)
      replace h := gif_f c3 h
      refine lv_aload_n hx hb dX0_settleOnce_25 rfl (lv_at hl 1 rfl) ?_
      refine gg_34_9 hx hb hown E hM hk_34 kw_423 dX0_settleOnce_26 ?_
      refine lv_iload_n hx hb dX0_settleOnce_29 rfl (lv_at hl 3 rfl) ?_
      obtain ⟨c4, h⟩ := gchk_e h
      refine g_iald hx hb E hM hk_39 dd_39 c4 dX0_settleOnce_30 ?_
      refine lv_iconst (v := (-1 : Int32)) hx hb dX0_settleOnce_31 (by decide) ?_
      refine lv_icmp_ne (tgt := 72) hx hb dX0_settleOnce_32 (by decide) (fun c5 => ?_) (fun c5 => ?_)
      · replace h := gif_f c5 h
        refine lv_iinc (v := (x3 + (1 : Int32))) (lv' := [(3, .int (x3 + (1 : Int32))), (0, .ref (ad 20)), (1, .ref (ad 34)), (2, .int x2)]) hx hb dX0_settleOnce_72 hl (k := 3) rfl rfl (by decide) rfl (fun ls hl => ?_)
        refine lv_goto (tgt := 4) hx hb dX0_settleOnce_75 (by decide) ?_
        exact kc _ (Option.some.inj h).symm hM hS (lv_sub hl [1, 2, 3, 0] rfl)
      · replace h := gif_t c5 h
        refine lv_aload_n hx hb dX0_settleOnce_35 rfl (lv_at hl 0 rfl) ?_
        refine lv_iload_n hx hb dX0_settleOnce_36 rfl (lv_at hl 3 rfl) ?_
        obtain ⟨q6, hq6, h⟩ := gbind_e h
        refine g_callV (As := [.int x3]) (rest := []) hx hb (hml.trans hl.1.symm) hown E hM hS hy_X0_weightedMean kw_147 (c_X0_weightedMean hq6) hk_20 dd_20 rfl rfl rfl (Nat.le_of_ble_eq_true rfl) ⟨Nat.le_of_ble_eq_true rfl, Nat.le_of_ble_eq_true rfl⟩ ⟨Nat.le_of_ble_eq_true rfl, Nat.le_of_ble_eq_true rfl⟩ dX0_settleOnce_37 (fun H locs hM hS => ?_)
        refine lv_lstore (lv' := [(4, .long q6), (0, .ref (ad 20)), (1, .ref (ad 34)), (2, .int x2), (3, .int x3)]) hx hb dX0_settleOnce_40 hl (by decide) rfl (fun ls hl => ?_)
        refine lv_iload_n hx hb dX0_settleOnce_42 rfl (lv_at hl 3 rfl) ?_
        refine lv_if_ne (tgt := 58) hx hb dX0_settleOnce_43 (by decide) (fun c7 => ?_) (fun c7 => ?_)
        · replace h := gif_f c7 h
          exact wj_X0_settleOnce_58 h F E kc kx hM hS (lv_sub hl [1, 2, 4, 0] rfl)
        · replace h := gif_t c7 h
          refine lv_lload hx hb dX0_settleOnce_46 (lv_at hl 0 rfl) ?_
          refine lv_aload_n hx hb dX0_settleOnce_48 rfl (lv_at hl 1 rfl) ?_
          refine gg_20_1 hx hb hown E hM hk_20 kw_319 dX0_settleOnce_49 ?_
          refine lv_iload_n hx hb dX0_settleOnce_52 rfl (lv_at hl 4 rfl) ?_
          obtain ⟨c9, h⟩ := gchk_e h
          refine g_lald hx hb E hM hk_22 dd_22 c9 dX0_settleOnce_53 ?_
          refine W.lcmp hx hb dX0_settleOnce_54 ?_
          refine lv_if_eq (tgt := 62) hx hb dX0_settleOnce_55 (by decide) (fun c10 => ?_) (fun c10 => ?_)
          · replace c10 := (lg_cmp_eq _ _).mp c10
            replace h := gif_t c10 h
            refine lv_iconst (v := (0 : Int32)) hx hb dX0_settleOnce_62 (by decide) ?_
            exact wj_X0_settleOnce_63 h F E kc kx hM hS (lv_sub hl [1, 2, 4, 0] rfl)
          · replace c10 := fun w => c10 ((lg_cmp_eq _ _).mpr w)
            replace h := gif_f c10 h
            exact wj_X0_settleOnce_58 h F E kc kx hM hS (lv_sub hl [1, 2, 4, 0] rfl)
set_option maxHeartbeats 4000000 in
theorem wl_X0_settleOnce_4 {p : Program} {l : Launch} {e : Env} {s : State} {m : MethodId} {args : Array Value} {below : List Frame} {meth : Method} {c : Code} {D : va_G} {cy : Nat → ClassId} {ad : Nat → Nat} {base : gBs}  {r : Int32 × gM} {RES : Bool × gM} (F : gF p s m meth c cX0_settleOnce RX0 6 (some .boolean)) (E : gEnv l D cy ad base s) (kx : ∀ (t : Int32 × gM) {H : Heap} {locs : List Loc} {ls : Array Slot}, r = t → gW gFull D cy ad base t.2 H → va_S (gA base) s.heap H locs → lv_has ls 6 [(2, .int t.1)] → W p l e ({ frames := 2, cells := 0, slots := 0, locals := 51 } : Room) s m args below meth c H locs 0 0 (MQ below (gQ (some (.int (b2i RES.1))) gFull D cy ad base RES.2) args s 0 0 (gA base)) (F0 m 78 ls []))  : ∀ (n : Nat) (x2 : Int32) (x3 : Int32) (μ : gM), gloop (fun t => b_X0_settleOnce_4  t.1 t.2.1 t.2.2) n (x2, x3, μ) = some r → ∀ {H : Heap} {locs : List Loc} {ls : Array Slot}, gW gFull D cy ad base μ H → va_S (gA base) s.heap H locs → lv_has ls 6 [(0, .ref (ad 20)), (1, .ref (ad 34)), (2, .int x2), (3, .int x3)] → W p l e ({ frames := 2, cells := 0, slots := 0, locals := 51 } : Room) s m args below meth c H locs 0 0 (MQ below (gQ (some (.int (b2i RES.1))) gFull D cy ad base RES.2) args s 0 0 (gA base)) (F0 m 4 ls []) := by
  intro n
  induction n with
  | zero =>
    intro x2 x3 μ h
    exact (gloop_0 h).elim
  | succ n ih =>
    intro x2 x3 μ h H locs ls hM hS hl
    obtain ⟨o, h0, hc, hq⟩ := gloop_s h
    have h1 : b_X0_settleOnce_4 x2 x3 μ = some o := h0
    exact wb_X0_settleOnce_4 h1 F E (fun t H locs ls ho hM hS hl => ih t.1 t.2.1 t.2.2 (hc t ho) hM hS hl) (fun t H locs ls ho hM hS hl => kx t (hq _ ho).symm hM hS hl) hM hS hl
def f_X0_settleOnce (μ : gM) : Option (Bool × gM) :=
  Option.bind (gloop (fun t => b_X0_settleOnce_4  t.1 t.2.1 t.2.2) gFuel ((0 : Int32), (0 : Int32), μ)) (fun q11 => Option.bind (i2b q11.1) (fun b12 => some (b12, q11.2)))
set_option maxHeartbeats 4000000 in
set_option maxRecDepth 100000 in
theorem c_X0_settleOnce {l : Launch} {D : va_G} {cy : Nat → ClassId} {ad : Nat → Nat} {base : gBs}  {μ : gM} {RES : Bool × gM} (h : f_X0_settleOnce  μ = some RES) : Met l yX0_settleOnce [.code yX0_settleOnce cX0_settleOnce 6 (some .boolean)] ({ frames := 2, cells := 0, slots := 0, locals := 51 } : Room) (va_Pc [.ref (ad 20), .ref (ad 34)] (gB l gFull D cy ad base μ)) (gQ (some (.int (b2i RES.1))) gFull D cy ad base RES.2) 0 0 (gA base) := by
  refine Met.ofW (cc := cX0_settleOnce) (maxL := 6) (ret := (some .boolean)) (by decide) rfl ?_
  intro p e s m args below meth c s₁ B hml0 hv
  obtain ⟨rfl, E, hM⟩ := hv
  have F : gF p s m meth c cX0_settleOnce RX0 6 (some .boolean) := gF_of B hml0
  obtain ⟨hx, hb, hml, hown, hlocks, hr⟩ := id F
  have hS : va_S (gA base) s.heap s.heap [] := va_S.rf
  have hl := lv_entry ([.ref (ad 20), .ref (ad 34)]) (n := 6) (Nat.le_of_ble_eq_true rfl)
  rw [lg_entry_eq]
  generalize (lg_sl ([.ref (ad 20), .ref (ad 34)]) ++ List.replicate (6 - (lg_sl ([.ref (ad 20), .ref (ad 34)])).length) Slot.unset).toArray = ls at hl ⊢
  have hl : lv_has ls 6 [(0, .ref (ad 20)), (1, .ref (ad 34))] := hl
  unfold f_X0_settleOnce at h
  refine lv_iconst (v := (0 : Int32)) hx hb dX0_settleOnce_0 (by decide) ?_
  refine lv_istore_n (lv' := [(2, .int (0 : Int32)), (0, .ref (ad 20)), (1, .ref (ad 34))]) hx hb dX0_settleOnce_1 rfl hl (by decide) rfl (fun ls hl => ?_)
  refine lv_iconst (v := (0 : Int32)) hx hb dX0_settleOnce_2 (by decide) ?_
  refine lv_istore_n (lv' := [(3, .int (0 : Int32)), (2, .int (0 : Int32)), (0, .ref (ad 20)), (1, .ref (ad 34))]) hx hb dX0_settleOnce_3 rfl hl (by decide) rfl (fun ls hl => ?_)
  obtain ⟨z13, h1, h⟩ := gbind_e h
  refine wl_X0_settleOnce_4 F E (r := z13) (fun q11 H locs ls e1 hM hS hl => ?_) gFuel (0 : Int32) (0 : Int32) μ h1 hM hS (lv_sub hl [2, 3, 1, 0] rfl)
  replace e1 : z13 = q11 := e1
  rw [e1] at h
  refine lv_iload_n hx hb dX0_settleOnce_78 rfl (lv_at hl 0 rfl) ?_
  obtain ⟨b12, hi, h⟩ := gbind_e h
  rw [i2b_e hi]
  obtain rfl := Option.some.inj h
  exact g_zret hx hb hr hlocks (b2i_nar _) hM hS dX0_settleOnce_79
def b_X0_settle_35 (x2 : Int32) (x3 : Int32) (x4 : Int32) (μ : gM) : Option ((Int32 × Int32 × gM) ⊕ (Int32 × gM)) :=
  if (x2 ≤ x3) then some (.inr (x3, μ)) else if (x4 = 0) then some (.inr (x3, μ)) else Option.bind (f_X0_settleOnce  μ) (fun q5 => some (.inl ((x3 + (1 : Int32)), (b2i q5.1), q5.2)))
set_option maxHeartbeats 4000000 in
set_option maxRecDepth 100000 in
theorem wb_X0_settle_35 {p : Program} {l : Launch} {e : Env} {s : State} {m : MethodId} {args : Array Value} {below : List Frame} {meth : Method} {c : Code} {D : va_G} {cy : Nat → ClassId} {ad : Nat → Nat} {base : gBs} {x2 : Int32} {x3 : Int32} {x4 : Int32} {μ : gM} {o : (Int32 × Int32 × gM) ⊕ (Int32 × gM)} {RES : Int32 × gM} (h : b_X0_settle_35 x2 x3 x4 μ = some o) (F : gF p s m meth c cX0_settle RX0 5 (some .int)) (E : gEnv l D cy ad base s) (kc : ∀ (t : Int32 × Int32 × gM) {H : Heap} {locs : List Loc} {ls : Array Slot}, o = .inl t → gW gFull D cy ad base t.2.2 H → va_S (gA base) s.heap H locs → lv_has ls 5 [(0, .ref (ad 20)), (1, .ref (ad 34)), (2, .int x2), (3, .int t.1), (4, .int t.2.1)] → W p l e ({ frames := 5, cells := 0, slots := 0, locals := 116 } : Room) s m args below meth c H locs 0 0 (MQ below (gQ (some (.int RES.1)) gFull D cy ad base RES.2) args s 0 0 (gA base)) (F0 m 35 ls [])) (kx : ∀ (t : Int32 × gM) {H : Heap} {locs : List Loc} {ls : Array Slot}, o = .inr t → gW gFull D cy ad base t.2 H → va_S (gA base) s.heap H locs → lv_has ls 5 [(3, .int t.1)] → W p l e ({ frames := 5, cells := 0, slots := 0, locals := 116 } : Room) s m args below meth c H locs 0 0 (MQ below (gQ (some (.int RES.1)) gFull D cy ad base RES.2) args s 0 0 (gA base)) (F0 m 58 ls []))  {H : Heap} {locs : List Loc} {ls : Array Slot} (hM : gW gFull D cy ad base μ H) (hS : va_S (gA base) s.heap H locs) (hl : lv_has ls 5 [(0, .ref (ad 20)), (1, .ref (ad 34)), (2, .int x2), (3, .int x3), (4, .int x4)]) : W p l e ({ frames := 5, cells := 0, slots := 0, locals := 116 } : Room) s m args below meth c H locs 0 0 (MQ below (gQ (some (.int RES.1)) gFull D cy ad base RES.2) args s 0 0 (gA base)) (F0 m 35 ls []) := by
  obtain ⟨hx, hb, hml, hown, hlocks, hr⟩ := id F
  unfold b_X0_settle_35 at h
  refine lv_iload_n hx hb dX0_settle_35 rfl (lv_at hl 3 rfl) ?_
  refine lv_iload_n hx hb dX0_settle_36 rfl (lv_at hl 2 rfl) ?_
  refine lv_icmp_ge (tgt := 58) hx hb dX0_settle_37 (by decide) (fun c3 => ?_) (fun c3 => ?_)
  · replace h := gif_t c3 h
    exact kx _ (Option.some.inj h).symm hM hS (lv_sub hl [3] rfl)
  · replace h := gif_f c3 h
    refine lv_iload hx hb dX0_settle_40 (lv_at hl 4 rfl) ?_
    refine lv_if_eq (tgt := 58) hx hb dX0_settle_42 (by decide) (fun c4 => ?_) (fun c4 => ?_)
    · replace h := gif_t c4 h
      exact kx _ (Option.some.inj h).symm hM hS (lv_sub hl [3] rfl)
    · replace h := gif_f c4 h
      refine lv_aload_n hx hb dX0_settle_45 rfl (lv_at hl 0 rfl) ?_
      refine lv_aload_n hx hb dX0_settle_46 rfl (lv_at hl 1 rfl) ?_
      obtain ⟨q5, hq5, h⟩ := gbind_e h
      refine g_callV (As := [.ref (ad 34)]) (rest := []) hx hb (hml.trans hl.1.symm) hown E hM hS hy_X0_settleOnce kw_143 (c_X0_settleOnce hq5) hk_20 dd_20 rfl rfl rfl (Nat.le_of_ble_eq_true rfl) ⟨Nat.le_of_ble_eq_true rfl, Nat.le_of_ble_eq_true rfl⟩ ⟨Nat.le_of_ble_eq_true rfl, Nat.le_of_ble_eq_true rfl⟩ dX0_settle_47 (fun H locs hM hS => ?_)
      refine lv_istore (lv' := [(4, .int (b2i q5.1)), (0, .ref (ad 20)), (1, .ref (ad 34)), (2, .int x2), (3, .int x3)]) hx hb dX0_settle_50 hl (by decide) rfl (fun ls hl => ?_)
      refine lv_iinc (v := (x3 + (1 : Int32))) (lv' := [(3, .int (x3 + (1 : Int32))), (4, .int (b2i q5.1)), (0, .ref (ad 20)), (1, .ref (ad 34)), (2, .int x2)]) hx hb dX0_settle_52 hl (k := 4) rfl rfl (by decide) rfl (fun ls hl => ?_)
      refine lv_goto (tgt := 35) hx hb dX0_settle_55 (by decide) ?_
      exact kc _ (Option.some.inj h).symm hM hS (lv_sub hl [2, 3, 4, 0, 1] rfl)
set_option maxHeartbeats 4000000 in
theorem wl_X0_settle_35 {p : Program} {l : Launch} {e : Env} {s : State} {m : MethodId} {args : Array Value} {below : List Frame} {meth : Method} {c : Code} {D : va_G} {cy : Nat → ClassId} {ad : Nat → Nat} {base : gBs} {x2 : Int32} {r : Int32 × gM} {RES : Int32 × gM} (F : gF p s m meth c cX0_settle RX0 5 (some .int)) (E : gEnv l D cy ad base s) (kx : ∀ (t : Int32 × gM) {H : Heap} {locs : List Loc} {ls : Array Slot}, r = t → gW gFull D cy ad base t.2 H → va_S (gA base) s.heap H locs → lv_has ls 5 [(3, .int t.1)] → W p l e ({ frames := 5, cells := 0, slots := 0, locals := 116 } : Room) s m args below meth c H locs 0 0 (MQ below (gQ (some (.int RES.1)) gFull D cy ad base RES.2) args s 0 0 (gA base)) (F0 m 58 ls []))  : ∀ (n : Nat) (x3 : Int32) (x4 : Int32) (μ : gM), gloop (fun t => b_X0_settle_35 x2 t.1 t.2.1 t.2.2) n (x3, x4, μ) = some r → ∀ {H : Heap} {locs : List Loc} {ls : Array Slot}, gW gFull D cy ad base μ H → va_S (gA base) s.heap H locs → lv_has ls 5 [(0, .ref (ad 20)), (1, .ref (ad 34)), (2, .int x2), (3, .int x3), (4, .int x4)] → W p l e ({ frames := 5, cells := 0, slots := 0, locals := 116 } : Room) s m args below meth c H locs 0 0 (MQ below (gQ (some (.int RES.1)) gFull D cy ad base RES.2) args s 0 0 (gA base)) (F0 m 35 ls []) := by
  intro n
  induction n with
  | zero =>
    intro x3 x4 μ h
    exact (gloop_0 h).elim
  | succ n ih =>
    intro x3 x4 μ h H locs ls hM hS hl
    obtain ⟨o, h0, hc, hq⟩ := gloop_s h
    have h1 : b_X0_settle_35 x2 x3 x4 μ = some o := h0
    exact wb_X0_settle_35 h1 F E (fun t H locs ls ho hM hS hl => ih t.1 t.2.1 t.2.2 (hc t ho) hM hS hl) (fun t H locs ls ho hM hS hl => kx t (hq _ ho).symm hM hS hl) hM hS hl
def f_X0_settle (p2 : Int32) (μ : gM) : Option (Int32 × gM) :=
  Option.bind (f_X0_carry  μ) (fun q1 => gchk (¬ (0 : Int32) < 0) (gchk (¬ (0 : Int32) < 0) (gchk (¬ (16 : Int32) < 0) (gchk ((0 : Int32).toNatClampNeg + (16 : Int32).toNatClampNeg ≤ 16) (gchk ((0 : Int32).toNatClampNeg + (16 : Int32).toNatClampNeg ≤ 16) (Option.bind (f_X0_gatherLines  (si (cpl q1 21 22 (0 : Int32).toNatClampNeg (0 : Int32).toNatClampNeg (16 : Int32).toNatClampNeg) 20 2 (1 : Int32))) (fun q2 => Option.bind (gloop (fun t => b_X0_settle_35 p2 t.1 t.2.1 t.2.2) gFuel ((0 : Int32), (1 : Int32), q2)) (fun q6 => some (q6.1, q6.2)))))))))
set_option maxHeartbeats 4000000 in
set_option maxRecDepth 100000 in
theorem c_X0_settle {l : Launch} {D : va_G} {cy : Nat → ClassId} {ad : Nat → Nat} {base : gBs} {p2 : Int32} {μ : gM} {RES : Int32 × gM} (h : f_X0_settle p2 μ = some RES) : Met l yX0_settle [.code yX0_settle cX0_settle 5 (some .int)] ({ frames := 5, cells := 0, slots := 0, locals := 116 } : Room) (va_Pc [.ref (ad 20), .ref (ad 34), .int p2] (gB l gFull D cy ad base μ)) (gQ (some (.int RES.1)) gFull D cy ad base RES.2) 0 0 (gA base) := by
  refine Met.ofW (cc := cX0_settle) (maxL := 5) (ret := (some .int)) (by decide) rfl ?_
  intro p e s m args below meth c s₁ B hml0 hv
  obtain ⟨rfl, E, hM⟩ := hv
  have F : gF p s m meth c cX0_settle RX0 5 (some .int) := gF_of B hml0
  obtain ⟨hx, hb, hml, hown, hlocks, hr⟩ := id F
  have hS : va_S (gA base) s.heap s.heap [] := va_S.rf
  have hl := lv_entry ([.ref (ad 20), .ref (ad 34), .int p2]) (n := 5) (Nat.le_of_ble_eq_true rfl)
  rw [lg_entry_eq]
  generalize (lg_sl ([.ref (ad 20), .ref (ad 34), .int p2]) ++ List.replicate (5 - (lg_sl ([.ref (ad 20), .ref (ad 34), .int p2])).length) Slot.unset).toArray = ls at hl ⊢
  have hl : lv_has ls 5 [(0, .ref (ad 20)), (1, .ref (ad 34)), (2, .int p2)] := hl
  unfold f_X0_settle at h
  refine lv_aload_n hx hb dX0_settle_0 rfl (lv_at hl 0 rfl) ?_
  refine lv_aload_n hx hb dX0_settle_1 rfl (lv_at hl 1 rfl) ?_
  obtain ⟨q1, hq1, h⟩ := gbind_e h
  refine g_callV (As := [.ref (ad 34)]) (rest := []) hx hb (hml.trans hl.1.symm) hown E hM hS hy_X0_carry kw_102 (c_X0_carry hq1) hk_20 dd_20 rfl rfl rfl (Nat.le_of_ble_eq_true rfl) ⟨Nat.le_of_ble_eq_true rfl, Nat.le_of_ble_eq_true rfl⟩ ⟨Nat.le_of_ble_eq_true rfl, Nat.le_of_ble_eq_true rfl⟩ dX0_settle_2 (fun H locs hM hS => ?_)
  refine lv_aload_n hx hb dX0_settle_5 rfl (lv_at hl 0 rfl) ?_
  refine gg_20_0 hx hb hown E hM hk_20 kw_317 dX0_settle_6 ?_
  refine lv_iconst (v := (0 : Int32)) hx hb dX0_settle_9 (by decide) ?_
  refine lv_aload_n hx hb dX0_settle_10 rfl (lv_at hl 0 rfl) ?_
  refine gg_20_1 hx hb hown E hM hk_20 kw_319 dX0_settle_11 ?_
  refine lv_iconst (v := (0 : Int32)) hx hb dX0_settle_14 (by decide) ?_
  refine lv_bipush (v := (16 : Int32)) hx hb dX0_settle_15 (by decide) ?_
  obtain ⟨c8, h⟩ := gchk_e h
  obtain ⟨c9, h⟩ := gchk_e h
  obtain ⟨c10, h⟩ := gchk_e h
  obtain ⟨c11, h⟩ := gchk_e h
  obtain ⟨c12, h⟩ := gchk_e h
  refine g_cpl hx hb (hml.trans hl.1.symm) hown E hM hS hk_21 hk_22 dd_21 dd_22 kw_128 kw_96 kw_97 kw_69 c8 c9 c10 c11 c12 (Nat.le_of_ble_eq_true rfl) (Nat.le_of_ble_eq_true rfl) dX0_settle_17 (fun H locs hM hS => ?_)
  refine lv_aload_n hx hb dX0_settle_20 rfl (lv_at hl 0 rfl) ?_
  refine lv_iconst (v := (1 : Int32)) hx hb dX0_settle_21 (by decide) ?_
  refine gp_20_2 hx hb hown E hM hS hk_20 (Or.inr rfl) kw_322 dX0_settle_22 (fun H locs hM hS => ?_)
  refine lv_aload_n hx hb dX0_settle_25 rfl (lv_at hl 0 rfl) ?_
  refine lv_aload_n hx hb dX0_settle_26 rfl (lv_at hl 1 rfl) ?_
  obtain ⟨q2, hq2, h⟩ := gbind_e h
  refine g_callV (As := [.ref (ad 34)]) (rest := []) hx hb (hml.trans hl.1.symm) hown E hM hS hy_X0_gatherLines kw_129 (c_X0_gatherLines hq2) hk_20 dd_20 rfl rfl rfl (Nat.le_of_ble_eq_true rfl) ⟨Nat.le_of_ble_eq_true rfl, Nat.le_of_ble_eq_true rfl⟩ ⟨Nat.le_of_ble_eq_true rfl, Nat.le_of_ble_eq_true rfl⟩ dX0_settle_27 (fun H locs hM hS => ?_)
  refine lv_iconst (v := (0 : Int32)) hx hb dX0_settle_30 (by decide) ?_
  refine lv_istore_n (lv' := [(3, .int (0 : Int32)), (0, .ref (ad 20)), (1, .ref (ad 34)), (2, .int p2)]) hx hb dX0_settle_31 rfl hl (by decide) rfl (fun ls hl => ?_)
  refine lv_iconst (v := (1 : Int32)) hx hb dX0_settle_32 (by decide) ?_
  refine lv_istore (lv' := [(4, .int (1 : Int32)), (3, .int (0 : Int32)), (0, .ref (ad 20)), (1, .ref (ad 34)), (2, .int p2)]) hx hb dX0_settle_33 hl (by decide) rfl (fun ls hl => ?_)
  obtain ⟨z7, h1, h⟩ := gbind_e h
  refine wl_X0_settle_35 F E (r := z7) (fun q6 H locs ls e1 hM hS hl => ?_) gFuel (0 : Int32) (1 : Int32) q2 h1 hM hS (lv_sub hl [2, 3, 4, 1, 0] rfl)
  replace e1 : z7 = q6 := e1
  rw [e1] at h
  refine lv_iload_n hx hb dX0_settle_58 rfl (lv_at hl 0 rfl) ?_
  obtain rfl := Option.some.inj h
  exact g_iret hx hb hr hlocks hM hS dX0_settle_59
def f_X0_settledHeight (p1 : Int32) (μ : gM) : Option (Int64) :=
  if ((gi μ 20 2) = 0) then some (-9223372036854775808 : Int64) else gchk (gIn p1 16) (some (gl μ 22 p1.toNatClampNeg))
set_option maxHeartbeats 4000000 in
set_option maxRecDepth 100000 in
theorem c_X0_settledHeight {l : Launch} {D : va_G} {cy : Nat → ClassId} {ad : Nat → Nat} {base : gBs} {p1 : Int32} {μ : gM} {RES : Int64} (h : f_X0_settledHeight p1 μ = some RES) : Met l yX0_settledHeight [.code yX0_settledHeight cX0_settledHeight 2 (some .long)] ({ frames := 0, cells := 0, slots := 0, locals := 0 } : Room) (va_Pc [.ref (ad 20), .int p1] (gB l gFull D cy ad base μ)) (gQ (some (.long RES)) gFull D cy ad base μ) 0 0 (gA base) := by
  refine Met.ofW (cc := cX0_settledHeight) (maxL := 2) (ret := (some .long)) (by decide) rfl ?_
  intro p e s m args below meth c s₁ B hml0 hv
  obtain ⟨rfl, E, hM⟩ := hv
  have F : gF p s m meth c cX0_settledHeight RX0 2 (some .long) := gF_of B hml0
  obtain ⟨hx, hb, hml, hown, hlocks, hr⟩ := id F
  have hS : va_S (gA base) s.heap s.heap [] := va_S.rf
  have hl := lv_entry ([.ref (ad 20), .int p1]) (n := 2) (Nat.le_of_ble_eq_true rfl)
  rw [lg_entry_eq]
  generalize (lg_sl ([.ref (ad 20), .int p1]) ++ List.replicate (2 - (lg_sl ([.ref (ad 20), .int p1])).length) Slot.unset).toArray = ls at hl ⊢
  have hl : lv_has ls 2 [(0, .ref (ad 20)), (1, .int p1)] := hl
  unfold f_X0_settledHeight at h
  refine lv_aload_n hx hb dX0_settledHeight_0 rfl (lv_at hl 0 rfl) ?_
  refine gg_20_2 hx hb hown E hM hk_20 kw_322 dX0_settledHeight_1 ?_
  refine lv_if_eq (tgt := 16) hx hb dX0_settledHeight_4 (by decide) (fun c1 => ?_) (fun c1 => ?_)
  · replace h := gif_t c1 h
    refine lv_ldc2 hx hb hown (v := (-9223372036854775808 : Int64)) (E.kw kw_106) dX0_settledHeight_16 ?_
    obtain rfl := Option.some.inj h
    exact g_lret hx hb hr hlocks hM hS dX0_settledHeight_19
  · replace h := gif_f c1 h
    refine lv_aload_n hx hb dX0_settledHeight_7 rfl (lv_at hl 0 rfl) ?_
    refine gg_20_1 hx hb hown E hM hk_20 kw_319 dX0_settledHeight_8 ?_
    refine lv_iload_n hx hb dX0_settledHeight_11 rfl (lv_at hl 1 rfl) ?_
    obtain ⟨c2, h⟩ := gchk_e h
    refine g_lald hx hb E hM hk_22 dd_22 c2 dX0_settledHeight_12 ?_
    refine lv_goto (tgt := 19) hx hb dX0_settledHeight_13 (by decide) ?_
    obtain rfl := Option.some.inj h
    exact g_lret hx hb hr hlocks hM hS dX0_settledHeight_19
def f_X0_misfit (p2 : Int32) (μ : gM) : Option (Int64) :=
  gchk (gIn p2 20) (Option.bind (f_X0_settledHeight (gi μ 40 p2.toNatClampNeg) μ) (fun q2 => gchk (gIn p2 20) (Option.bind (f_X0_settledHeight (gi μ 41 p2.toNatClampNeg) μ) (fun q4 => Option.bind (f_X3_isActive p2 μ) (fun q5 => if ((b2i q5) = 0) then some (-9223372036854775808 : Int64) else if (q2 = (-9223372036854775808 : Int64)) then some (-9223372036854775808 : Int64) else if (q4 = (-9223372036854775808 : Int64)) then some (-9223372036854775808 : Int64) else Option.bind (f_X3_lineRise p2 μ) (fun q9 => some ((q4 - q2) - q9.toInt64)))))))
set_option maxHeartbeats 4000000 in
set_option maxRecDepth 100000 in
theorem c_X0_misfit {l : Launch} {D : va_G} {cy : Nat → ClassId} {ad : Nat → Nat} {base : gBs} {p2 : Int32} {μ : gM} {RES : Int64} (h : f_X0_misfit p2 μ = some RES) : Met l yX0_misfit [.code yX0_misfit cX0_misfit 7 (some .long)] ({ frames := 3, cells := 0, slots := 0, locals := 68 } : Room) (va_Pc [.ref (ad 20), .ref (ad 34), .int p2] (gB l gFull D cy ad base μ)) (gQ (some (.long RES)) gFull D cy ad base μ) 0 0 (gA base) := by
  refine Met.ofW (cc := cX0_misfit) (maxL := 7) (ret := (some .long)) (by decide) rfl ?_
  intro p e s m args below meth c s₁ B hml0 hv
  obtain ⟨rfl, E, hM⟩ := hv
  have F : gF p s m meth c cX0_misfit RX0 7 (some .long) := gF_of B hml0
  obtain ⟨hx, hb, hml, hown, hlocks, hr⟩ := id F
  have hS : va_S (gA base) s.heap s.heap [] := va_S.rf
  have hl := lv_entry ([.ref (ad 20), .ref (ad 34), .int p2]) (n := 7) (Nat.le_of_ble_eq_true rfl)
  rw [lg_entry_eq]
  generalize (lg_sl ([.ref (ad 20), .ref (ad 34), .int p2]) ++ List.replicate (7 - (lg_sl ([.ref (ad 20), .ref (ad 34), .int p2])).length) Slot.unset).toArray = ls at hl ⊢
  have hl : lv_has ls 7 [(0, .ref (ad 20)), (1, .ref (ad 34)), (2, .int p2)] := hl
  unfold f_X0_misfit at h
  refine lv_aload_n hx hb dX0_misfit_0 rfl (lv_at hl 0 rfl) ?_
  refine lv_aload_n hx hb dX0_misfit_1 rfl (lv_at hl 1 rfl) ?_
  refine gg_34_10 hx hb hown E hM hk_34 kw_430 dX0_misfit_2 ?_
  refine lv_iload_n hx hb dX0_misfit_5 rfl (lv_at hl 2 rfl) ?_
  obtain ⟨c1, h⟩ := gchk_e h
  refine g_iald hx hb E hM hk_40 dd_40 c1 dX0_misfit_6 ?_
  obtain ⟨q2, hq2, h⟩ := gbind_e h
  refine g_callV (As := [.int (gi μ 40 p2.toNatClampNeg)]) (rest := []) hx hb (hml.trans hl.1.symm) hown E hM hS hy_X0_settledHeight kw_1488 (c_X0_settledHeight hq2) hk_20 dd_20 rfl rfl rfl (Nat.le_of_ble_eq_true rfl) ⟨Nat.le_of_ble_eq_true rfl, Nat.le_of_ble_eq_true rfl⟩ ⟨Nat.le_of_ble_eq_true rfl, Nat.le_of_ble_eq_true rfl⟩ dX0_misfit_7 (fun H locs hM hS => ?_)
  refine lv_lstore_n (lv' := [(3, .long q2), (0, .ref (ad 20)), (1, .ref (ad 34)), (2, .int p2)]) hx hb dX0_misfit_10 rfl hl (by decide) rfl (fun ls hl => ?_)
  refine lv_aload_n hx hb dX0_misfit_11 rfl (lv_at hl 1 rfl) ?_
  refine lv_aload_n hx hb dX0_misfit_12 rfl (lv_at hl 2 rfl) ?_
  refine gg_34_11 hx hb hown E hM hk_34 kw_436 dX0_misfit_13 ?_
  refine lv_iload_n hx hb dX0_misfit_16 rfl (lv_at hl 3 rfl) ?_
  obtain ⟨c3, h⟩ := gchk_e h
  refine g_iald hx hb E hM hk_41 dd_41 c3 dX0_misfit_17 ?_
  obtain ⟨q4, hq4, h⟩ := gbind_e h
  refine g_callV (As := [.int (gi μ 41 p2.toNatClampNeg)]) (rest := []) hx hb (hml.trans hl.1.symm) hown E hM hS hy_X0_settledHeight kw_1488 (c_X0_settledHeight hq4) hk_20 dd_20 rfl rfl rfl (Nat.le_of_ble_eq_true rfl) ⟨Nat.le_of_ble_eq_true rfl, Nat.le_of_ble_eq_true rfl⟩ ⟨Nat.le_of_ble_eq_true rfl, Nat.le_of_ble_eq_true rfl⟩ dX0_misfit_18 (fun H locs hM hS => ?_)
  refine lv_lstore (lv' := [(5, .long q4), (3, .long q2), (0, .ref (ad 20)), (1, .ref (ad 34)), (2, .int p2)]) hx hb dX0_misfit_21 hl (by decide) rfl (fun ls hl => ?_)
  refine lv_aload_n hx hb dX0_misfit_23 rfl (lv_at hl 3 rfl) ?_
  refine lv_iload_n hx hb dX0_misfit_24 rfl (lv_at hl 4 rfl) ?_
  obtain ⟨q5, hq5, h⟩ := gbind_e h
  refine g_callV (As := [.int p2]) (rest := []) hx hb (hml.trans hl.1.symm) hown E hM hS hy_X3_isActive kw_1489 (c_X3_isActive hq5) hk_34 dd_34 rfl rfl rfl (Nat.le_of_ble_eq_true rfl) ⟨Nat.le_of_ble_eq_true rfl, Nat.le_of_ble_eq_true rfl⟩ ⟨Nat.le_of_ble_eq_true rfl, Nat.le_of_ble_eq_true rfl⟩ dX0_misfit_25 (fun H locs hM hS => ?_)
  refine lv_if_eq (tgt := 48) hx hb dX0_misfit_28 (by decide) (fun c6 => ?_) (fun c6 => ?_)
  · replace h := gif_t c6 h
    refine lv_ldc2 hx hb hown (v := (-9223372036854775808 : Int64)) (E.kw kw_106) dX0_misfit_48 ?_
    obtain rfl := Option.some.inj h
    exact g_lret hx hb hr hlocks hM hS dX0_misfit_51
  · replace h := gif_f c6 h
    refine lv_lload_n hx hb dX0_misfit_31 rfl (lv_at hl 1 rfl) ?_
    refine lv_ldc2 hx hb hown (v := (-9223372036854775808 : Int64)) (E.kw kw_106) dX0_misfit_32 ?_
    refine W.lcmp hx hb dX0_misfit_35 ?_
    refine lv_if_eq (tgt := 48) hx hb dX0_misfit_36 (by decide) (fun c7 => ?_) (fun c7 => ?_)
    · replace c7 := (lg_cmp_eq _ _).mp c7
      replace h := gif_t c7 h
      refine lv_ldc2 hx hb hown (v := (-9223372036854775808 : Int64)) (E.kw kw_106) dX0_misfit_48 ?_
      obtain rfl := Option.some.inj h
      exact g_lret hx hb hr hlocks hM hS dX0_misfit_51
    · replace c7 := fun w => c7 ((lg_cmp_eq _ _).mpr w)
      replace h := gif_f c7 h
      refine lv_lload hx hb dX0_misfit_39 (lv_at hl 0 rfl) ?_
      refine lv_ldc2 hx hb hown (v := (-9223372036854775808 : Int64)) (E.kw kw_106) dX0_misfit_41 ?_
      refine W.lcmp hx hb dX0_misfit_44 ?_
      refine lv_if_ne (tgt := 52) hx hb dX0_misfit_45 (by decide) (fun c8 => ?_) (fun c8 => ?_)
      · replace c8 := fun w => c8 ((lg_cmp_eq _ _).mpr w)
        replace h := gif_f c8 h
        refine lv_lload hx hb dX0_misfit_52 (lv_at hl 0 rfl) ?_
        refine lv_lload_n hx hb dX0_misfit_54 rfl (lv_at hl 1 rfl) ?_
        refine lv_lsub hx hb dX0_misfit_55 ?_
        refine lv_aload_n hx hb dX0_misfit_56 rfl (lv_at hl 3 rfl) ?_
        refine lv_iload_n hx hb dX0_misfit_57 rfl (lv_at hl 4 rfl) ?_
        obtain ⟨q9, hq9, h⟩ := gbind_e h
        refine g_callV (As := [.int p2]) (rest := [.long (q4 - q2)]) hx hb (hml.trans hl.1.symm) hown E hM hS hy_X3_lineRise kw_1490 (c_X3_lineRise hq9) hk_34 dd_34 rfl rfl rfl (Nat.le_of_ble_eq_true rfl) ⟨Nat.le_of_ble_eq_true rfl, Nat.le_of_ble_eq_true rfl⟩ ⟨Nat.le_of_ble_eq_true rfl, Nat.le_of_ble_eq_true rfl⟩ dX0_misfit_58 (fun H locs hM hS => ?_)
        refine lv_i2l (v := q9.toInt64) hx hb dX0_misfit_61 rfl ?_
        refine lv_lsub hx hb dX0_misfit_62 ?_
        obtain rfl := Option.some.inj h
        exact g_lret hx hb hr hlocks hM hS dX0_misfit_63
      · replace c8 := (lg_cmp_eq _ _).mp c8
        replace h := gif_t c8 h
        refine lv_ldc2 hx hb hown (v := (-9223372036854775808 : Int64)) (E.kw kw_106) dX0_misfit_48 ?_
        obtain rfl := Option.some.inj h
        exact g_lret hx hb hr hlocks hM hS dX0_misfit_51
def j_X1_keep_32 (x1 : Int32) (x2 : Int32) (x3 : Int32) (μ : gM) : Option (gM) :=
  gchk (¬ (8 : Int32) = 0) (gchk (gIn (((gi μ 28 1) + (gi μ 28 0)) - ((gi μ 28 1) + (gi μ 28 0)) / (8 : Int32) * (8 : Int32)) 8) (gchk (gIn (((gi μ 28 1) + (gi μ 28 0)) - ((gi μ 28 1) + (gi μ 28 0)) / (8 : Int32) * (8 : Int32)) 8) (gchk (gIn (((gi μ 28 1) + (gi μ 28 0)) - ((gi μ 28 1) + (gi μ 28 0)) / (8 : Int32) * (8 : Int32)) 8) (gchk (gIn (((gi μ 28 1) + (gi μ 28 0)) - ((gi μ 28 1) + (gi μ 28 0)) / (8 : Int32) * (8 : Int32)) 8) (gchk (¬ (0 : Int32) < 0) (gchk (¬ ((((gi μ 28 1) + (gi μ 28 0)) - ((gi μ 28 1) + (gi μ 28 0)) / (8 : Int32) * (8 : Int32)) * (16 : Int32)) < 0) (gchk (¬ (16 : Int32) < 0) (gchk ((0 : Int32).toNatClampNeg + (16 : Int32).toNatClampNeg ≤ 16) (gchk (((((gi μ 28 1) + (gi μ 28 0)) - ((gi μ 28 1) + (gi μ 28 0)) / (8 : Int32) * (8 : Int32)) * (16 : Int32)).toNatClampNeg + (16 : Int32).toNatClampNeg ≤ 128) (some (si (cpl (si (si (si (si μ 29 (((gi μ 28 1) + (gi μ 28 0)) - ((gi μ 28 1) + (gi μ 28 0)) / (8 : Int32) * (8 : Int32)).toNatClampNeg x1) 30 (((gi μ 28 1) + (gi μ 28 0)) - ((gi μ 28 1) + (gi μ 28 0)) / (8 : Int32) * (8 : Int32)).toNatClampNeg x2) 31 (((gi μ 28 1) + (gi μ 28 0)) - ((gi μ 28 1) + (gi μ 28 0)) / (8 : Int32) * (8 : Int32)).toNatClampNeg x3) 32 (((gi μ 28 1) + (gi μ 28 0)) - ((gi μ 28 1) + (gi μ 28 0)) / (8 : Int32) * (8 : Int32)).toNatClampNeg (vp_nar .boolean (gi (si (si (si μ 29 (((gi μ 28 1) + (gi μ 28 0)) - ((gi μ 28 1) + (gi μ 28 0)) / (8 : Int32) * (8 : Int32)).toNatClampNeg x1) 30 (((gi μ 28 1) + (gi μ 28 0)) - ((gi μ 28 1) + (gi μ 28 0)) / (8 : Int32) * (8 : Int32)).toNatClampNeg x2) 31 (((gi μ 28 1) + (gi μ 28 0)) - ((gi μ 28 1) + (gi μ 28 0)) / (8 : Int32) * (8 : Int32)).toNatClampNeg x3) 20 2))) 22 33 (0 : Int32).toNatClampNeg ((((gi μ 28 1) + (gi μ 28 0)) - ((gi μ 28 1) + (gi μ 28 0)) / (8 : Int32) * (8 : Int32)) * (16 : Int32)).toNatClampNeg (16 : Int32).toNatClampNeg) 28 0 ((gi (cpl (si (si (si (si μ 29 (((gi μ 28 1) + (gi μ 28 0)) - ((gi μ 28 1) + (gi μ 28 0)) / (8 : Int32) * (8 : Int32)).toNatClampNeg x1) 30 (((gi μ 28 1) + (gi μ 28 0)) - ((gi μ 28 1) + (gi μ 28 0)) / (8 : Int32) * (8 : Int32)).toNatClampNeg x2) 31 (((gi μ 28 1) + (gi μ 28 0)) - ((gi μ 28 1) + (gi μ 28 0)) / (8 : Int32) * (8 : Int32)).toNatClampNeg x3) 32 (((gi μ 28 1) + (gi μ 28 0)) - ((gi μ 28 1) + (gi μ 28 0)) / (8 : Int32) * (8 : Int32)).toNatClampNeg (vp_nar .boolean (gi (si (si (si μ 29 (((gi μ 28 1) + (gi μ 28 0)) - ((gi μ 28 1) + (gi μ 28 0)) / (8 : Int32) * (8 : Int32)).toNatClampNeg x1) 30 (((gi μ 28 1) + (gi μ 28 0)) - ((gi μ 28 1) + (gi μ 28 0)) / (8 : Int32) * (8 : Int32)).toNatClampNeg x2) 31 (((gi μ 28 1) + (gi μ 28 0)) - ((gi μ 28 1) + (gi μ 28 0)) / (8 : Int32) * (8 : Int32)).toNatClampNeg x3) 20 2))) 22 33 (0 : Int32).toNatClampNeg ((((gi μ 28 1) + (gi μ 28 0)) - ((gi μ 28 1) + (gi μ 28 0)) / (8 : Int32) * (8 : Int32)) * (16 : Int32)).toNatClampNeg (16 : Int32).toNatClampNeg) 28 0) + (1 : Int32)))))))))))))
set_option maxHeartbeats 4000000 in
set_option maxRecDepth 100000 in
theorem wj_X1_keep_32 {p : Program} {l : Launch} {e : Env} {s : State} {m : MethodId} {args : Array Value} {below : List Frame} {meth : Method} {c : Code} {D : va_G} {cy : Nat → ClassId} {ad : Nat → Nat} {base : gBs} {x1 : Int32} {x2 : Int32} {x3 : Int32} {μ : gM} {o : gM} (h : j_X1_keep_32 x1 x2 x3 μ = some o) (F : gF p s m meth c cX1_keep RX1 6 none) (E : gEnv l D cy ad base s)  {H : Heap} {locs : List Loc} {ls : Array Slot} (hM : gW gFull D cy ad base μ H) (hS : va_S (gA base) s.heap H locs) (hl : lv_has ls 6 [(0, .ref (ad 28)), (1, .int x1), (2, .int x2), (3, .int x3), (4, .ref (ad 20))]) : W p l e ({ frames := 1, cells := 0, slots := 0, locals := 64 } : Room) s m args below meth c H locs 0 0 (MQ below (gQ none gFull D cy ad base o) args s 0 0 (gA base)) (F0 m 32 ls []) := by
  obtain ⟨hx, hb, hml, hown, hlocks, hr⟩ := id F
  unfold j_X1_keep_32 at h
  refine lv_aload_n hx hb dX1_keep_32 rfl (lv_at hl 0 rfl) ?_
  refine gg_28_1 hx hb hown E hM hk_28 kw_355 dX1_keep_33 ?_
  refine lv_aload_n hx hb dX1_keep_36 rfl (lv_at hl 0 rfl) ?_
  refine gg_28_0 hx hb hown E hM hk_28 kw_353 dX1_keep_37 ?_
  refine lv_iadd hx hb dX1_keep_40 ?_
  refine lv_bipush (v := (8 : Int32)) hx hb dX1_keep_41 (by decide) ?_
  obtain ⟨c11, h⟩ := gchk_e h
  refine lv_irem hx hb dX1_keep_43 c11 ?_
  refine lv_istore (lv' := [(5, .int (((gi μ 28 1) + (gi μ 28 0)) - ((gi μ 28 1) + (gi μ 28 0)) / (8 : Int32) * (8 : Int32))), (0, .ref (ad 28)), (1, .int x1), (2, .int x2), (3, .int x3), (4, .ref (ad 20))]) hx hb dX1_keep_44 hl (by decide) rfl (fun ls hl => ?_)
  refine lv_aload_n hx hb dX1_keep_46 rfl (lv_at hl 1 rfl) ?_
  refine gg_28_2 hx hb hown E hM hk_28 kw_356 dX1_keep_47 ?_
  refine lv_iload hx hb dX1_keep_50 (lv_at hl 0 rfl) ?_
  refine lv_iload_n hx hb dX1_keep_52 rfl (lv_at hl 2 rfl) ?_
  obtain ⟨c2, h⟩ := gchk_e h
  refine g_iast hx hb E hM hS hk_29 dd_29 c2 dX1_keep_53 (fun H locs hM hS => ?_)
  refine lv_aload_n hx hb dX1_keep_54 rfl (lv_at hl 1 rfl) ?_
  refine gg_28_3 hx hb hown E hM hk_28 kw_357 dX1_keep_55 ?_
  refine lv_iload hx hb dX1_keep_58 (lv_at hl 0 rfl) ?_
  refine lv_iload_n hx hb dX1_keep_60 rfl (lv_at hl 3 rfl) ?_
  obtain ⟨c3, h⟩ := gchk_e h
  refine g_iast hx hb E hM hS hk_30 dd_30 c3 dX1_keep_61 (fun H locs hM hS => ?_)
  refine lv_aload_n hx hb dX1_keep_62 rfl (lv_at hl 1 rfl) ?_
  refine gg_28_4 hx hb hown E hM hk_28 kw_358 dX1_keep_63 ?_
  refine lv_iload hx hb dX1_keep_66 (lv_at hl 0 rfl) ?_
  refine lv_iload_n hx hb dX1_keep_68 rfl (lv_at hl 4 rfl) ?_
  obtain ⟨c4, h⟩ := gchk_e h
  refine g_iast hx hb E hM hS hk_31 dd_31 c4 dX1_keep_69 (fun H locs hM hS => ?_)
  refine lv_aload_n hx hb dX1_keep_70 rfl (lv_at hl 1 rfl) ?_
  refine gg_28_5 hx hb hown E hM hk_28 kw_359 dX1_keep_71 ?_
  refine lv_iload hx hb dX1_keep_74 (lv_at hl 0 rfl) ?_
  refine lv_aload hx hb dX1_keep_76 (lv_at hl 5 rfl) ?_
  refine gg_20_2 hx hb hown E hM hk_20 kw_321 dX1_keep_78 ?_
  obtain ⟨c5, h⟩ := gchk_e h
  refine g_zast hx hb E hM hS hk_32 dd_32 c5 dX1_keep_81 (fun H locs hM hS => ?_)
  refine lv_aload hx hb dX1_keep_82 (lv_at hl 5 rfl) ?_
  refine gg_20_1 hx hb hown E hM hk_20 kw_320 dX1_keep_84 ?_
  refine lv_iconst (v := (0 : Int32)) hx hb dX1_keep_87 (by decide) ?_
  refine lv_aload_n hx hb dX1_keep_88 rfl (lv_at hl 1 rfl) ?_
  refine gg_28_6 hx hb hown E hM hk_28 kw_360 dX1_keep_89 ?_
  refine lv_iload hx hb dX1_keep_92 (lv_at hl 0 rfl) ?_
  refine lv_bipush (v := (16 : Int32)) hx hb dX1_keep_94 (by decide) ?_
  refine lv_imul hx hb dX1_keep_96 ?_
  refine lv_bipush (v := (16 : Int32)) hx hb dX1_keep_97 (by decide) ?_
  obtain ⟨c6, h⟩ := gchk_e h
  obtain ⟨c7, h⟩ := gchk_e h
  obtain ⟨c8, h⟩ := gchk_e h
  obtain ⟨c9, h⟩ := gchk_e h
  obtain ⟨c10, h⟩ := gchk_e h
  refine g_cpl hx hb (hml.trans hl.1.symm) hown E hM hS hk_22 hk_33 dd_22 dd_33 kw_95 kw_96 kw_97 kw_69 c6 c7 c8 c9 c10 (Nat.le_of_ble_eq_true rfl) (Nat.le_of_ble_eq_true rfl) dX1_keep_99 (fun H locs hM hS => ?_)
  refine lv_aload_n hx hb dX1_keep_102 rfl (lv_at hl 1 rfl) ?_
  refine lv_dup hx hb dX1_keep_103 rfl ?_
  refine gg_28_0 hx hb hown E hM hk_28 kw_353 dX1_keep_104 ?_
  refine lv_iconst (v := (1 : Int32)) hx hb dX1_keep_107 (by decide) ?_
  refine lv_iadd hx hb dX1_keep_108 ?_
  refine gp_28_0 hx hb hown E hM hS hk_28 kw_353 dX1_keep_109 (fun H locs hM hS => ?_)
  obtain rfl := Option.some.inj h
  exact g_vret hx hb hr hlocks hM hS dX1_keep_112
def f_X1_keep (p1 : Int32) (p2 : Int32) (p3 : Int32) (μ : gM) : Option (gM) :=
  if ((gi μ 28 0) = (8 : Int32)) then gchk (¬ (8 : Int32) = 0) (j_X1_keep_32 p1 p2 p3 (si (si μ 28 1 (((gi μ 28 1) + (1 : Int32)) - ((gi μ 28 1) + (1 : Int32)) / (8 : Int32) * (8 : Int32))) 28 0 ((gi (si μ 28 1 (((gi μ 28 1) + (1 : Int32)) - ((gi μ 28 1) + (1 : Int32)) / (8 : Int32) * (8 : Int32))) 28 0) - (1 : Int32)))) else j_X1_keep_32 p1 p2 p3 μ
set_option maxHeartbeats 4000000 in
set_option maxRecDepth 100000 in
theorem c_X1_keep {l : Launch} {D : va_G} {cy : Nat → ClassId} {ad : Nat → Nat} {base : gBs} {p1 : Int32} {p2 : Int32} {p3 : Int32} {μ : gM} {RES : gM} (h : f_X1_keep p1 p2 p3 μ = some RES) : Met l yX1_keep [.code yX1_keep cX1_keep 6 none] ({ frames := 1, cells := 0, slots := 0, locals := 64 } : Room) (va_Pc [.ref (ad 28), .int p1, .int p2, .int p3, .ref (ad 20)] (gB l gFull D cy ad base μ)) (gQ none gFull D cy ad base RES) 0 0 (gA base) := by
  refine Met.ofW (cc := cX1_keep) (maxL := 6) (ret := none) (by decide) rfl ?_
  intro p e s m args below meth c s₁ B hml0 hv
  obtain ⟨rfl, E, hM⟩ := hv
  have F : gF p s m meth c cX1_keep RX1 6 none := gF_of B hml0
  obtain ⟨hx, hb, hml, hown, hlocks, hr⟩ := id F
  have hS : va_S (gA base) s.heap s.heap [] := va_S.rf
  have hl := lv_entry ([.ref (ad 28), .int p1, .int p2, .int p3, .ref (ad 20)]) (n := 6) (Nat.le_of_ble_eq_true rfl)
  rw [lg_entry_eq]
  generalize (lg_sl ([.ref (ad 28), .int p1, .int p2, .int p3, .ref (ad 20)]) ++ List.replicate (6 - (lg_sl ([.ref (ad 28), .int p1, .int p2, .int p3, .ref (ad 20)])).length) Slot.unset).toArray = ls at hl ⊢
  have hl : lv_has ls 6 [(0, .ref (ad 28)), (1, .int p1), (2, .int p2), (3, .int p3), (4, .ref (ad 20))] := hl
  unfold f_X1_keep at h
  refine lv_aload_n hx hb dX1_keep_0 rfl (lv_at hl 0 rfl) ?_
  refine gg_28_0 hx hb hown E hM hk_28 kw_353 dX1_keep_1 ?_
  refine lv_bipush (v := (8 : Int32)) hx hb dX1_keep_4 (by decide) ?_
  refine lv_icmp_ne (tgt := 32) hx hb dX1_keep_6 (by decide) (fun c1 => ?_) (fun c1 => ?_)
  · replace h := gif_f c1 h
    exact wj_X1_keep_32 h F E hM hS hl
  · replace h := gif_t c1 h
    refine lv_aload_n hx hb dX1_keep_9 rfl (lv_at hl 0 rfl) ?_
    refine lv_aload_n hx hb dX1_keep_10 rfl (lv_at hl 0 rfl) ?_
    refine gg_28_1 hx hb hown E hM hk_28 kw_355 dX1_keep_11 ?_
    refine lv_iconst (v := (1 : Int32)) hx hb dX1_keep_14 (by decide) ?_
    refine lv_iadd hx hb dX1_keep_15 ?_
    refine lv_bipush (v := (8 : Int32)) hx hb dX1_keep_16 (by decide) ?_
    obtain ⟨c12, h⟩ := gchk_e h
    refine lv_irem hx hb dX1_keep_18 c12 ?_
    refine gp_28_1 hx hb hown E hM hS hk_28 kw_355 dX1_keep_19 (fun H locs hM hS => ?_)
    refine lv_aload_n hx hb dX1_keep_22 rfl (lv_at hl 0 rfl) ?_
    refine lv_dup hx hb dX1_keep_23 rfl ?_
    refine gg_28_0 hx hb hown E hM hk_28 kw_353 dX1_keep_24 ?_
    refine lv_iconst (v := (1 : Int32)) hx hb dX1_keep_27 (by decide) ?_
    refine lv_isub hx hb dX1_keep_28 ?_
    refine gp_28_0 hx hb hown E hM hS hk_28 kw_353 dX1_keep_29 (fun H locs hM hS => ?_)
    exact wj_X1_keep_32 h F E hM hS hl
